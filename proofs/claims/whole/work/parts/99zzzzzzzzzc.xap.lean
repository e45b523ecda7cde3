/-! exact calls of the reference: apart -/
theorem cmp_at {B : rn_L} {m i : Nat} (hm : m < B.length) (h1 : rn_b B m ≤ i) (h2 : i < rn_b B (m + 1)) : (B.getD m [])[i - rn_b B m]? = some (vAt B i) := by
  have es : B.flatten = (B.take m).flatten ++ (B[m] ++ (B.drop (m + 1)).flatten) := by
    conv => lhs; rw [← List.take_append_drop m B, List.drop_eq_getElem_cons hm]
    rw [List.flatten_append, List.flatten_cons]
  have hb := rnb_s hm
  have hlt : i < B.flatten.length := Nat.lt_of_lt_of_le h2 (rn_b_le B (m + 1))
  have h3 := vAt_of hlt
  have eg : B.getD m [] = B[m] := by
    rw [List.getD_eq_getElem?_getD, List.getElem?_eq_getElem hm]
    rfl
  rw [eg, ← h3, es, List.getElem?_append_right (show (B.take m).flatten.length ≤ i from h1), List.getElem?_append_left (show i - (B.take m).flatten.length < (B[m]).length by have : rn_b B m = (B.take m).flatten.length := rfl; omega)]
  rfl
theorem cmp_all {B : rn_L} {m : Nat} (hm : m < B.length) : (B.getD m []).take (rn_b B (m + 1) - rn_b B m) = B.getD m [] := by
  have hb := rnb_s hm
  have eg : B.getD m [] = B[m] := by
    rw [List.getD_eq_getElem?_getD, List.getElem?_eq_getElem hm]
    rfl
  rw [eg, show rn_b B (m + 1) - rn_b B m = (B[m]).length by omega, List.take_length]
theorem take_s {α : Type} {L : List α} {k : Nat} {x : α} (h : L[k]? = some x) : L.take (k + 1) = L.take k ++ [x] := by
  rw [List.take_succ, h]
  rfl
theorem tk_snoc {B : rn_L} {m : Nat} (hm : m < B.length) : B.take (m + 1) = B.take m ++ [B.getD m []] := by
  refine take_s ?_
  rw [List.getD_eq_getElem?_getD, List.getElem?_eq_getElem hm]
  rfl
theorem shN_app {s : Nat} {A B : rn_L} : shN s (A ++ B) = shN s A ++ shN s B := by
  unfold shN
  rw [List.map_append]
theorem At_len {z : ow_MS} {n : Nat} {A : rn_L} (h : rn_At z n A []) : z.1 (n + 1) = nI A.flatten.length := by
  have := h.1
  rw [List.append_nil] at this
  exact this
section XA
variable {X : (Nat → Nat → Int32) → Prop} {z : ow_MS} {St : plT}
theorem xr_addNet {o s c : Nat} {z : ow_MS} {O B : rn_L} {sg : Nat → Bool} (ho : mw_net o) (hon : o ≠ 3000) (hO : oNet z o B sg) (hok : okF B.flatten c) (hl : O.flatten.length + B.flatten.length ≤ 24) (hq : O.length + B.length ≤ 12) (hs : s + c ≤ 24) (hA : rn_At z 3000 O []) : Te (fun K => qe_X13_addNet K o (nI s) z) (fun z1 => rn_At z1 3000 (O ++ shN s B) [] ∧ fr (fun g => 3001 ≤ g ∧ g ≤ 3006) z z1 ∧ (∀ x, x < c → z1.2.1 3006 (x + s) = z.2.1 (o + 6) x) ∧ ∀ x, x < s → z1.2.1 3006 x = z.2.1 3006 x) := by
  have hmo := net_mod ho
  have hBc := okF_len hok
  have oY : ∀ {y : ow_MS}, fr (fun g => 3001 ≤ g ∧ g ≤ 3006) z y → oNet y o B sg := fun hf => oNet_fr hf (fun g hg => by omega) hO
  let Q : ow_MS → Prop := fun z1 => rn_At z1 3000 (O ++ shN s B) [] ∧ fr (fun g => 3001 ≤ g ∧ g ≤ 3006) z z1 ∧ (∀ x, x < c → z1.2.1 3006 (x + s) = z.2.1 (o + 6) x) ∧ ∀ x, x < s → z1.2.1 3006 x = z.2.1 3006 x
  have l3 : ∀ (k x : Nat) (y : ow_MS), x + k = c → fr (fun g => 3001 ≤ g ∧ g ≤ 3006) z y → rn_At y 3000 (O ++ shN s B) [] → (∀ x', x' < x → y.2.1 3006 (x' + s) = z.2.1 (o + 6) x') → (∀ x, x < s → y.2.1 3006 x = z.2.1 3006 x) → Tt (fun K i => q_X13_addNet K i 3 (nI s) (nI x) 0 o y) Q := by
    intro k
    induction k with
    | zero =>
      intro x y hx hf hb h1 h2
      refine u_X13_addNet_3 ?_; unfold qm_X13_addNet_3
      refine w_rdF (oY hf).1.V (w_nzI (by decide) ?_)
      rw [show nI B.flatten.length / 2 = nI (B.flatten.length / 2) from pk_div (d := 2) (by omega) (by omega) (by omega)]
      exact w_leT (by omega) (by omega) (w_some ⟨hb, hf, fun x' hx' => h1 x' (by omega), h2⟩)
    | succ k ih =>
      intro x y hx hf hb h1 h2
      refine u_X13_addNet_3 ?_; unfold qm_X13_addNet_3
      refine w_rdF (oY hf).1.V (w_nzI (by decide) ?_)
      rw [show nI B.flatten.length / 2 = nI (B.flatten.length / 2) from pk_div (d := 2) (by omega) (by omega) (by omega), nI_add, nI_1]
      refine w_leF (by omega) (by omega) (w_rdI (pl6 ho) rfl (by omega) rfl (w_wrI (pl6 pn3) rfl (by omega) ?_))
      refine ih (x + 1) _ (by omega) (fr_I2 hf (by omega)) (fr_At (P := fun g => g = 3006) (fr_I rfl) (fun g hg => by omega) hb) (fun x' hx' => ?_) (fun x' hx' => rd_ne (by omega) (h2 x' hx'))
      by_cases he : x' = x
      · rw [he]
        show (usI y 3006 (x + s) (y.2.1 (o + 6) x)).2.1 3006 (x + s) = _
        rw [po_usI_at, (hf (o + 6) (by omega)).2.1]
      · exact rd_ne (by omega) (h1 x' (by omega))
  have lenS : ∀ m, m ≤ B.length → (O ++ shN s (B.take m)).flatten.length = O.flatten.length + rn_b B m := fun m _ => by
    rw [List.flatten_append, List.length_append, shN_fl, List.length_map]
    rfl
  have out : ∀ (k m : Nat) (y : ow_MS), m + k = B.length → fr (fun g => 3001 ≤ g ∧ g ≤ 3006) z y → y.2.1 3006 = z.2.1 3006 → rn_At y 3000 (O ++ shN s (B.take m)) [] → Tt (fun K i => q_X13_addNet K i 1 (nI s) (nI m) 0 o y) Q := by
    intro k
    induction k with
    | zero =>
      intro m y hm hf h6 hb
      have hme : m = B.length := by omega
      rw [hme, List.take_length] at hb
      refine u_X13_addNet_1 ?_; unfold qm_X13_addNet_1
      exact w_rdF (lk_C (oY hf).1) (w_leT (by omega) (by omega) (l3 c 0 y (by omega) hf hb (fun x hx => by omega) (fun x _ => by rw [h6])))
    | succ k ih =>
      intro m y hm hf h6 hb
      have hmB : m < B.length := by omega
      have hmono := rn_b_mono B m
      have hble := rn_b_le B (m + 1)
      have inn : ∀ (k i : Nat) (y : ow_MS), i + k = rn_b B (m + 1) → rn_b B m ≤ i → fr (fun g => 3001 ≤ g ∧ g ≤ 3006) z y → y.2.1 3006 = z.2.1 3006 → rn_At y 3000 (O ++ shN s (B.take m)) (((B.getD m []).take (i - rn_b B m)).map (shv s)) → Tt (fun K i9 => q_X13_addNet K i9 2 (nI s) (nI m) (nI i) o y) Q := by
        intro k
        induction k with
        | zero =>
          intro i y hi hlo hf h6 hb
          have hie : i = rn_b B (m + 1) := by omega
          rw [hie] at hb ⊢
          rw [cmp_all hmB] at hb
          refine u_X13_addNet_2 ?_; unfold qm_X13_addNet_2
          rw [nI_1]
          refine w_rdI (pl3 ho) rfl (by omega) (lk_b (oY hf).1 (by omega)) (w_leT (by omega) (Nat.le_refl _) (w_cs0 (tn_end pn3 hb (by rw [List.length_append]; unfold shN; rw [List.length_map, List.length_take]; omega)) (fun y2 ⟨g1, g2⟩ => ih (m + 1) y2 (by omega) (fr_tr hf (fr_mono (fun g hg => by omega) g2)) (by rw [(g2 3006 (by omega)).2.1]; exact h6) ?_)))
          rw [tk_snoc hmB, shN_app, ← List.append_assoc]
          exact g1
        | succ k ihk =>
          intro i y hi hlo hf h6 hb
          have hil : i < B.flatten.length := by omega
          have hat := cmp_at hmB hlo (show i < rn_b B (m + 1) by omega)
          have hbl : ((B.getD m []).take (i - rn_b B m)).length ≤ i - rn_b B m := by rw [List.length_take]; omega
          refine u_X13_addNet_2 ?_; unfold qm_X13_addNet_2
          rw [nI_1]
          refine w_rdI (pl3 ho) rfl (by omega) (lk_b (oY hf).1 (by omega)) (w_leF (by omega) (by omega) (w_rdI (pl4 ho) rfl (by omega) (lk_cu (oY hf).1 hil).1 (w_rdI (pl5 ho) rfl (by omega) (lk_cu (oY hf).1 hil).2 ?_)))
          rw [nI_add]
          refine w_cs0 (tn_add (x := crs B i + s) (u := uns B i) pn3 hb (by rw [List.length_append, lenS m (by omega), List.length_map]; omega)) (fun y2 ⟨g1, g2⟩ => ?_)
          rw [nI_1]
          refine ihk (i + 1) y2 (by omega) (by omega) (fr_tr hf (fr_mono (fun g hg => by omega) g2)) (by rw [(g2 3006 (by omega)).2.1]; exact h6) ?_
          rw [show i + 1 - rn_b B m = (i - rn_b B m) + 1 by omega, take_s hat, List.map_append]
          exact g1
      refine u_X13_addNet_1 ?_; unfold qm_X13_addNet_1
      refine w_rdF (lk_C (oY hf).1) (w_leF (by omega) (by omega) (w_rdI (pl3 ho) rfl (by omega) (lk_b (oY hf).1 (by omega)) (inn _ (rn_b B m) y (by omega : rn_b B m + (rn_b B (m + 1) - rn_b B m) = _) (Nat.le_refl _) hf h6 ?_)))
      rw [Nat.sub_self, List.take_zero]
      exact hb
  refine e_X13_addNet ?_
  refine u_X13_addNet_0 ?_; unfold qm_X13_addNet_0
  refine out B.length 0 z (by omega) fr_rf rfl ?_
  rw [List.take_zero]
  show rn_At z 3000 (O ++ []) []
  rw [List.append_nil]
  exact hA
theorem okB_0 {F : List (Nat × Nat)} {c : Nat} : okB F 0 c ↔ okF F c := by
  unfold okB okF
  constructor
  · rintro ⟨h1, h2⟩
    exact ⟨h1, fun p => by rw [h2]; omega⟩
  · rintro ⟨h1, h2⟩
    exact ⟨h1, fun p => by rw [h2]; omega⟩
theorem app_ok {A B : rn_L} {a b : Nat} (ha : okF A.flatten a) (hb : okF B.flatten b) : okF (A ++ shN a B).flatten (a + b) := by
  rw [← okB_0, List.flatten_append]
  refine okB_app (okB_0.mpr ha) ?_
  rw [Nat.zero_add]
  exact okF_sh hb
theorem xq_apart {x x' : Int32} (h : gI X z) (hR : relR z St) : Te (fun K => qe_X13_apart K x x' z) (fun r => rFl X z 1 r ∧ ((∀ d, d < 40 → x = nI d → St d = none) ∨ ∀ d, d < 40 → x' = nI d → St d = none) ∨ ∃ d A sg e B sg', d < 40 ∧ x = nI d ∧ St d = some (A, sg) ∧ e < 40 ∧ x' = nI e ∧ St e = some (B, sg') ∧ (rFl X z 2 r ∧ (24 < A.flatten.length + B.flatten.length ∨ 6 < A.length + B.length) ∨ A.flatten.length + B.flatten.length ≤ 24 ∧ A.length + B.length ≤ 6 ∧ (rFl X z 3 r ∧ allF St ∨ ∃ f, lstF St f ∧ rKp X z f (A ++ shN (A.flatten.length / 2) B) (fun k => if k < A.flatten.length / 2 then sg k else sg' (k - A.flatten.length / 2)) r))) := by
  let Q : Int32 × ow_MS → Prop := fun r => rFl X z 1 r ∧ ((∀ d, d < 40 → x = nI d → St d = none) ∨ ∀ d, d < 40 → x' = nI d → St d = none) ∨ ∃ d A sg e B sg', d < 40 ∧ x = nI d ∧ St d = some (A, sg) ∧ e < 40 ∧ x' = nI e ∧ St e = some (B, sg') ∧ (rFl X z 2 r ∧ (24 < A.flatten.length + B.flatten.length ∨ 6 < A.length + B.length) ∨ A.flatten.length + B.flatten.length ≤ 24 ∧ A.length + B.length ≤ 6 ∧ (rFl X z 3 r ∧ allF St ∨ ∃ f, lstF St f ∧ rKp X z f (A ++ shN (A.flatten.length / 2) B) (fun k => if k < A.flatten.length / 2 then sg k else sg' (k - A.flatten.length / 2)) r))
  have h1 := gI_1 (c := 0) h
  have hR1 := relR_1 (c := 0) hR
  have c1 : ((∀ d, d < 40 → x = nI d → St d = none) ∨ ∀ d, d < 40 → x' = nI d → St d = none) → Tt (fun K k => q_X13_apart K k 1 x x' (usF z 1 0)) Q := by
    intro hno
    refine u_X13_apart_1 ?_; unfold qm_X13_apart_1
    exact w_mono (w_failX (k := 1) h1 fr_1) (fun r hr => Or.inl ⟨hr, hno⟩)
  refine e_X13_apart ?_
  refine u_X13_apart_0 ?_; unfold qm_X13_apart_0
  refine w_wrF (w_hasX hR1 (fun h0 => w_ifT rfl (c1 (Or.inl h0))) (fun d9 A sg hd9 hx hs hv hne => w_ifF (by decide) (w_hasX hR1 (fun h0 => w_ifT rfl (c1 (Or.inr h0))) (fun e9 B sg2 he9 hy hs2 hw hne2 => w_ifF (by decide) ?_))))
  have op1 := to_open pn1 hd9 hv
  rw [← hx] at op1
  refine w_cs0 op1 (fun z2 ⟨o1, f1⟩ => ?_)
  have h2 : gI X z2 := gI_net pn1 f1 (fun g hg => by omega) h1
  have hw2 : vRow z2 12 (32 * e9) B sg2 := ⟨rc_fr f1 (by omega) hw.1, hw.2⟩
  have op2 := to_open pn2 he9 hw2
  rw [← hy] at op2
  refine w_cs0 op2 (fun z3 ⟨o2, f2⟩ => ?_)
  have h3 : gI X z3 := gI_net pn2 f2 (fun g hg => by omega) h2
  have o1' := oNet_fr f2 (fun g hg => by omega) o1
  have l1 := o1.len
  have l2 := o2.len
  have k1 := o1.2.2.2
  have k2 := o2.2.2.2
  obtain ⟨a, ha, ha12⟩ := o1.2.2.1
  obtain ⟨b, hb, hb12⟩ := o2.2.2.1
  have hVa := okF_len ha
  have hVb := okF_len hb
  have f03 : fr rPs z z3 := fr_tr fr_1 (fr_tr (fr_mono (fun g hg => Or.inr (by unfold rSc; omega)) f1) (fr_mono (fun g hg => Or.inr (by unfold rSc; omega)) f2))
  have hR3 : relR z3 St := relR_fr f2 (by omega) (relR_fr f1 (by omega) hR1)
  have z31 : z3.1 1 = 0 := by
    rw [(f2 1 (by omega)).1, (f1 1 (by omega)).1]
    exact po_usF_at
  have fin : ∀ {r}, (rFl X z 2 r ∧ (24 < A.flatten.length + B.flatten.length ∨ 6 < A.length + B.length) ∨ A.flatten.length + B.flatten.length ≤ 24 ∧ A.length + B.length ≤ 6 ∧ (rFl X z 3 r ∧ allF St ∨ ∃ f, lstF St f ∧ rKp X z f (A ++ shN (A.flatten.length / 2) B) (fun k => if k < A.flatten.length / 2 then sg k else sg2 (k - A.flatten.length / 2)) r)) → Q r := fun hr => Or.inr ⟨d9, A, sg, e9, B, sg2, hd9, hx, hs, he9, hy, hs2, hr⟩
  have c2 : (24 < A.flatten.length + B.flatten.length ∨ 6 < A.length + B.length) → Tt (fun K k => q_X13_apart K k 2 x x' z3) Q := by
    intro hno
    refine u_X13_apart_2 ?_; unfold qm_X13_apart_2
    exact w_mono (w_failX (k := 2) h3 f03) (fun r hr => fin (Or.inl ⟨hr, hno⟩))
  refine w_rdF o1'.1.V (w_rdF o2.1.V ?_)
  rw [nI_add]
  refine w_lt (a := 24) (by omega) (by omega) (fun h9 => c2 (Or.inl h9)) (fun h24 => w_rdF (lk_C o1'.1) (w_rdF (lk_C o2.1) ?_))
  rw [nI_add]
  refine w_le (b := 6) (by omega) (by omega) (fun h6 => w_freeX hR3 (fun hall => w_ifT rfl (w_mono (w_failX (k := 3) h3 f03) (fun r hr => fin (Or.inr ⟨by omega, h6, Or.inl ⟨hr, hall⟩⟩)))) (fun f hfr => w_ifF (rn_neg1 (by have := hfr.1; omega)) (w_cs0 (tn_clear pn3) (fun z4 ⟨b4, f4⟩ => ?_)))) (fun h9 => c2 (Or.inr h9))
  have o4 := oNet_fr f4 (fun g hg => by omega) o1'
  have o4b := oNet_fr f4 (fun g hg => by omega) o2
  refine w_cs0 (xr_addNet (O := []) (s := 0) pn1 (by omega) o4 ha (by show 0 + _ ≤ _; omega) (by show 0 + _ ≤ _; omega) (by omega) b4) (fun z5 ⟨b5, f5, s5, _⟩ => ?_)
  have o5 := oNet_fr f5 (fun g hg => by omega) o4
  have o5b := oNet_fr f5 (fun g hg => by omega) o4b
  have esh : [] ++ shN 0 A = A := by
    rw [List.nil_append]
    unfold shN
    conv => rhs; rw [← List.map_id A]
    refine List.map_congr_left (fun L _ => ?_)
    conv => rhs; rw [← List.map_id L]
    exact List.map_congr_left (fun p _ => rfl)
  rw [esh] at b5
  refine w_rdF o5.1.V (w_nzI (by decide) ?_)
  have ea : A.flatten.length / 2 = a := by omega
  rw [show nI A.flatten.length / 2 = nI a from by rw [show nI A.flatten.length / 2 = nI (A.flatten.length / 2) from pk_div (d := 2) (by omega) (by omega) (by omega), ea]]
  refine w_cs0 (xr_addNet (O := A) (s := a) pn2 (by omega) o5b hb (by omega) (by omega) (by omega) b5) (fun z6 ⟨b6, f6, s6, t6⟩ => ?_)
  have F36 : fr (fun g => 3001 ≤ g ∧ g ≤ 3006) z3 z6 := fr_tr (fr_mono (fun g hg => by omega) f4) (fr_tr f5 f6)
  have ok12 := app_ok ha hb
  have wk12 := okF_wk (by omega) ok12
  rw [ea] at fin
  refine w_mono (w_keepX (z0 := z) (sg2 := fun k => if k < a then sg k else sg2 (k - a)) (gI_net pn3 F36 (fun g hg => by omega) h3) (relR_fr F36 (by omega) hR3) hfr (by rw [(F36 1 (by omega)).1]; exact z31) (fr_tr f03 (fr_mono (fun g hg => Or.inr (by unfold rSc; omega)) F36)) b6 (fun p hp => ?_) wk12 (by rw [okF_len ok12]; omega) (by rw [List.length_append]; unfold shN; rw [List.length_map]; exact h6)) (fun r hr => fin (Or.inr ⟨by omega, h6, Or.inr ⟨f, hfr, hr⟩⟩))
  show z6.2.1 3006 p.1 = if (if p.1 < a then sg p.1 else sg2 (p.1 - a)) = true then -1 else 1
  rw [List.flatten_append] at hp
  rcases List.mem_append.mp hp with hpa | hpb
  · have hlt := ((ha.2 p).mp hpa).1
    rw [if_pos hlt, t6 _ hlt]
    have := s5 _ hlt
    rw [Nat.add_zero] at this
    rw [this]
    exact o4.2.1 p hpa
  · rw [shN_fl] at hpb
    obtain ⟨q, hq, rfl⟩ := List.mem_map.mp hpb
    have hlt := ((hb.2 q).mp hq).1
    show z6.2.1 3006 (q.1 + a) = if (if q.1 + a < a then sg (q.1 + a) else sg2 (q.1 + a - a)) = true then -1 else 1
    have e9 : (if q.1 + a < a then sg (q.1 + a) else sg2 (q.1 + a - a)) = sg2 q.1 := by rw [if_neg (by omega), Nat.add_sub_cancel]
    rw [e9, s6 _ hlt]
    exact o5b.2.1 q hq
end XA
