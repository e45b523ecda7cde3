/-! the code of a net shows the net -/
theorem tkv_nz {sg : Nat → Bool} {p : Nat × Nat} : tkv sg p ≠ 0 := by
  unfold tkv
  omega
theorem tk_inj {sg sg' : Nat → Bool} : ∀ (A A' : rn_L), (∀ p, p ∈ A.flatten → p.2 < 2) → (∀ p, p ∈ A'.flatten → p.2 < 2) → tk sg A = tk sg' A' → A = A' ∧ ∀ p, p ∈ A.flatten → sg p.1 = sg' p.1
  | [], [], _, _, _ => ⟨rfl, fun p hp => by cases hp⟩
  | [], L' :: A', _, _, e => by
    have := congrArg List.length e
    rw [tk_len, tk_len] at this
    simp at this
  | L :: A, [], _, _, e => by
    have := congrArg List.length e
    rw [tk_len, tk_len] at this
    simp at this
  | L :: A, L' :: A', h, h', e => by
    have u : ∀ (sg : Nat → Bool) (L : List (Nat × Nat)) (A : rn_L), tk sg (L :: A) = L.map (tkv sg) ++ 0 :: tk sg A := fun sg L A => by
      unfold tk
      rw [List.map_cons, List.flatten_cons]
      unfold tkc
      rw [List.append_assoc]
      rfl
    rw [u, u] at e
    obtain ⟨e1, e2⟩ := spl0 _ _ _ _ (fun a ha => by
      obtain ⟨p, -, q⟩ := List.mem_map.mp ha
      rw [← q]
      exact tkv_nz) (fun a ha => by
      obtain ⟨p, -, q⟩ := List.mem_map.mp ha
      rw [← q]
      exact tkv_nz) e
    rw [List.flatten_cons] at h h'
    have cl : ∀ (sg : Nat → Bool) (L : List (Nat × Nat)), L.map (tkv sg) = L.map (clc sg 0) := fun sg L => List.map_congr_left (fun p _ => by unfold tkv clc; rw [Nat.sub_zero])
    rw [cl, cl] at e1
    obtain ⟨k1, k2⟩ := clc_inj L L' (fun p hp => ⟨Nat.zero_le _, h p (List.mem_append_left _ hp)⟩) (fun p hp => ⟨Nat.zero_le _, h' p (List.mem_append_left _ hp)⟩) e1
    obtain ⟨i1, i2⟩ := tk_inj A A' (fun p hp => h p (List.mem_append_right _ hp)) (fun p hp => h' p (List.mem_append_right _ hp)) e2
    refine ⟨by rw [k1, i1], fun p hp => ?_⟩
    rw [List.flatten_cons] at hp
    rcases List.mem_append.mp hp with hp | hp
    · exact k2 p hp
    · exact i2 p hp
/-- the last of a row has the first behind it -/
theorem sc_last {L : List vT} (hn : L.Nodup) {i : Nat} (hi : i + 1 = L.length) : sc L (L[i]'(by omega)) = L[0]'(by omega) := by
  cases L with
  | nil => simp at hi
  | cons a X =>
    rcases Nat.eq_zero_or_pos X.length with h0 | h0
    · have : X = [] := List.length_eq_zero_iff.mp h0
      subst this
      have : i = 0 := by simp at hi; omega
      subst this
      rfl
    · have hX : X ≠ [] := fun e => by rw [e] at h0; exact Nat.lt_irrefl _ h0
      have es : a :: X = a :: X.dropLast ++ [X.getLast hX] := by rw [List.cons_append, List.dropLast_concat_getLast]
      have eg : (a :: X)[i]'(by omega) = X.getLast hX := by
        rw [List.getLast_eq_getElem]
        have : i = (X.length - 1) + 1 := by rw [List.length_cons] at hi; omega
        subst this
        rfl
      have hni : X.getLast hX ∉ a :: X.dropLast := by
        have h1 : (a :: X.dropLast ++ [X.getLast hX]).Nodup := by rw [← es]; exact hn
        exact fun h9 => (List.nodup_append.mp h1).2.2 _ h9 _ (List.mem_singleton.mpr rfl) rfl
      have := sc_end hni
      rw [← es] at this
      rw [eg, this]
      rfl
section EI
variable {A : rn_L} {sg : Nat → Bool} {f : Nat → Nat} {T : ow_NT}
theorem rgl_at {s j : Nat} (hj : j < rlen A (rn_c A s)) : (rgl A s)[j]? = some (rv A s j) := by
  unfold rgl
  rw [List.getElem?_map, List.getElem?_range hj]
  rfl
theorem rgl_sc {s w : Nat} {g : Nat → vT} (hs : s < A.flatten.length) (hg : ((rgl A s).map g).Nodup) (hw : w ∈ rgl A s) : sc ((rgl A s).map g) (g w) = g (rn_nx A w) := by
  obtain ⟨j, j1, rfl⟩ := rgl_mem hw
  have hl : ((rgl A s).map g).length = rlen A (rn_c A s) := by rw [List.length_map, rgl_len]
  have at9 : ∀ k (hk : k < rlen A (rn_c A s)), ((rgl A s).map g)[k]'(by rw [hl]; exact hk) = g (rv A s k) := fun k hk => by
    have := rgl_at (A := A) hk
    rw [List.getElem_map]
    congr 1
    exact (List.getElem?_eq_some_iff.mp this).2
  have hnx := rv_nx hs j1
  rw [← at9 j j1, hnx]
  by_cases e : j + 1 = rlen A (rn_c A s)
  · rw [if_pos e, sc_last hg (by rw [hl]; exact e), at9 0 (by omega), rv_0 hs]
  · rw [if_neg e, sc_idx hg (by rw [hl]; omega), at9 (j + 1) (by omega)]
def eiN (A : rn_L) (v : Nat) : Nat := (fm A (vsO A (trS A v))).length
def eiL (A : rn_L) : Nat → List Nat → rn_L
  | _, [] => []
  | b, v :: V => shN b (rnN A (vsO A (trS A v)) (trS A v)) ++ eiL A (b + eiN A v) V
def eiF (A : rn_L) (f : Nat → Nat) : Nat → List Nat → Nat → Nat
  | _, [] => fun _ => 0
  | b, v :: V => fun x => if x < b + eiN A v then f (crs A (((fm A (vsO A (trS A v)))[x - b]?).getD 0)) else eiF A f (b + eiN A v) V x
def eiG (A : rn_L) (sg : Nat → Bool) : Nat → List Nat → Nat → Bool
  | _, [] => fun _ => false
  | b, v :: V => fun x => if x < b + eiN A v then rnG A sg (vsO A (trS A v)) (x - b) else eiG A sg (b + eiN A v) V x
theorem cat_ei (hF : wkF A.flatten) : ∀ (Ps : List prt) (V : List Nat) (b : Nat), (∀ P, P ∈ Ps → gp P.1 P.2.2) → (∀ v, v ∈ V → v < A.flatten.length) → Ps.map (fun P => tk P.2.1 P.1) = V.map (cdv A sg) → catL b Ps = eiL A b V ∧ ∀ p, p ∈ (catL b Ps).flatten → catG b Ps p.1 = eiG A sg b V p.1
  | [], [], b, _, _, _ => ⟨rfl, fun p hp => by cases hp⟩
  | [], v :: V, b, _, _, e => by cases e
  | P :: Ps, [], b, _, _, e => by cases e
  | P :: Ps, v :: V, b, hP, hV, e => by
    obtain ⟨e1, e2⟩ := List.cons.inj e
    have hv := hV v List.mem_cons_self
    obtain ⟨t1, t2, -, -⟩ := trS_all (wkF_ok hF) hv
    have hok := rnN_ok hF t1 t2
    have hg := hP P List.mem_cons_self
    have e1 : tk P.2.1 P.1 = tk (rnG A sg (vsO A (trS A v))) (rnN A (vsO A (trS A v)) (trS A v)) := e1.trans (tks_tk _ (fun v hv => hv))
    obtain ⟨k1, k2⟩ := tk_inj _ _ (fun p hp => ((hg.1.2 p).mp hp).2) (fun p hp => ((hok.2 p).mp hp).2) e1
    have k3 : P.2.2 = eiN A v := by
      have h1 := okF_len hg.1
      have h2 := okF_len hok
      rw [k1, h2] at h1
      unfold eiN
      omega
    obtain ⟨i1, i2⟩ := cat_ei hF Ps V (b + P.2.2) (fun Q hQ => hP Q (List.mem_cons_of_mem _ hQ)) (fun u hu => hV u (List.mem_cons_of_mem _ hu)) e2
    refine ⟨?_, fun p hp => ?_⟩
    · show shN b P.1 ++ catL (b + P.2.2) Ps = shN b _ ++ eiL A (b + eiN A v) V
      rw [i1, k1, k3]
    · have hp : p ∈ (shN b P.1 ++ catL (b + P.2.2) Ps).flatten := hp
      rw [List.flatten_append] at hp
      show (if p.1 < b + P.2.2 then P.2.1 (p.1 - b) else catG (b + P.2.2) Ps p.1) = if p.1 < b + eiN A v then rnG A sg (vsO A (trS A v)) (p.1 - b) else eiG A sg (b + eiN A v) V p.1
      rcases List.mem_append.mp hp with h9 | h9
      · rw [shN_fl] at h9
        obtain ⟨q, q1, q2⟩ := List.mem_map.mp h9
        have q3 := ((hg.1.2 q).mp q1).1
        have q4 : p.1 = q.1 + b := by rw [← q2]
        rw [if_pos (by omega), if_pos (by omega), q4, Nat.add_sub_cancel]
        exact k2 q q1
      · have h8 := ((cat_ok Ps (b + P.2.2) (fun Q hQ => hP Q (List.mem_cons_of_mem _ hQ))).2 p).mp h9
        rw [if_neg (by omega), if_neg (by omega), i2 p h9, k3]
theorem ei_row (hF : wkF A.flatten) : ∀ (V : List Nat) (b : Nat), (∀ v, v ∈ V → v < A.flatten.length) → ∀ L, L ∈ eiL A b V → ∃ s g, s < A.flatten.length ∧ L = (rgl A s).map g ∧ ∀ w, w ∈ rgl A s → b ≤ (g w).1 ∧ eiF A f b V (g w).1 = f (crs A w) ∧ (g w).2 = uns A w ∧ eiG A sg b V (g w).1 = sg (crs A w)
  | [], b, _, L, hL => by cases hL
  | v :: V, b, hV, L, hL => by
    have hv := hV v List.mem_cons_self
    obtain ⟨t1, t2, -, -⟩ := trS_all (wkF_ok hF) hv
    rcases List.mem_append.mp hL with h9 | h9
    · obtain ⟨B, hB, e1⟩ := List.mem_map.mp h9
      obtain ⟨s, hs, e2⟩ := List.mem_map.mp hB
      refine ⟨s, fun w => shv b (rnv A (vsO A (trS A v)) w), t1.2 s hs, ?_, fun w hw => ?_⟩
      · rw [← e1, ← e2, List.map_map]
        rfl
      · have hwv := vsO_mem hs hw
        have hm : crs A w ∈ (vsO A (trS A v)).map (crs A) := List.mem_map.mpr ⟨w, hwv, rfl⟩
        have hle := num_le (A := A) hm
        obtain ⟨u, u1, u2⟩ := num_at (A := A) hm
        have hp : 0 < num A (vsO A (trS A v)) (crs A w) := by unfold num; omega
        have hlt : num A (vsO A (trS A v)) (crs A w) - 1 + b < b + eiN A v := by unfold eiN; omega
        refine ⟨Nat.le_add_left _ _, ?_, rfl, ?_⟩
        · show (if num A (vsO A (trS A v)) (crs A w) - 1 + b < b + eiN A v then f (crs A (((fm A (vsO A (trS A v)))[num A (vsO A (trS A v)) (crs A w) - 1 + b - b]?).getD 0)) else _) = _
          rw [if_pos hlt, Nat.add_sub_cancel, u1]
          show f (crs A u) = _
          rw [u2]
        · show (if num A (vsO A (trS A v)) (crs A w) - 1 + b < b + eiN A v then rnG A sg (vsO A (trS A v)) (num A (vsO A (trS A v)) (crs A w) - 1 + b - b) else _) = _
          rw [if_pos hlt, Nat.add_sub_cancel]
          exact rnG_at hwv
    · obtain ⟨s, g, s1, s2, s3⟩ := ei_row hF V (b + eiN A v) (fun u hu => hV u (List.mem_cons_of_mem _ hu)) L h9
      refine ⟨s, g, s1, s2, fun w hw => ?_⟩
      obtain ⟨g1, g2, g3, g4⟩ := s3 w hw
      refine ⟨by omega, ?_, g3, ?_⟩
      · show (if (g w).1 < b + eiN A v then _ else eiF A f (b + eiN A v) V (g w).1) = _
        rw [if_neg (by omega), g2]
      · show (if (g w).1 < b + eiN A v then _ else eiG A sg (b + eiN A v) V (g w).1) = _
        rw [if_neg (by omega), g4]
theorem ei_all : ∀ (V : List Nat) (b v w : Nat), v ∈ V → w ∈ vsO A (trS A v) → ∃ p, p ∈ (eiL A b V).flatten ∧ eiF A f b V p.1 = f (crs A w)
  | [], b, v, w, hv, _ => by cases hv
  | u :: V, b, v, w, hv, hw => by
    rcases List.mem_cons.mp hv with e | hv
    · subst e
      have hm : crs A w ∈ (vsO A (trS A v)).map (crs A) := List.mem_map.mpr ⟨w, hw, rfl⟩
      have hle := num_le (A := A) hm
      obtain ⟨u, u1, u2⟩ := num_at (A := A) hm
      have hp : 0 < num A (vsO A (trS A v)) (crs A w) := by unfold num; omega
      have hlt : num A (vsO A (trS A v)) (crs A w) - 1 + b < b + eiN A v := by unfold eiN; omega
      refine ⟨shv b (rnv A (vsO A (trS A v)) w), ?_, ?_⟩
      · show _ ∈ (shN b (rnN A (vsO A (trS A v)) (trS A v)) ++ eiL A (b + eiN A v) V).flatten
        rw [List.flatten_append, shN_fl, rnN_fl]
        exact List.mem_append_left _ (List.mem_map.mpr ⟨_, List.mem_map.mpr ⟨w, hw, rfl⟩, rfl⟩)
      · show (if num A (vsO A (trS A v)) (crs A w) - 1 + b < b + eiN A v then f (crs A (((fm A (vsO A (trS A v)))[num A (vsO A (trS A v)) (crs A w) - 1 + b - b]?).getD 0)) else _) = _
        rw [if_pos hlt, Nat.add_sub_cancel, u1]
        show f (crs A u) = _
        rw [u2]
    · obtain ⟨p, p1, p2⟩ := ei_all V (b + eiN A u) v w hv hw
      refine ⟨p, ?_, ?_⟩
      · show p ∈ (shN b _ ++ eiL A (b + eiN A u) V).flatten
        rw [List.flatten_append]
        exact List.mem_append_right _ p1
      · have hb : ∀ (V : List Nat) (b : Nat) (p : vT), p ∈ (eiL A b V).flatten → b ≤ p.1 := by
          intro V
          induction V with
          | nil => intro b p hp; cases hp
          | cons x V ih =>
            intro b p hp
            have hp : p ∈ (shN b (rnN A (vsO A (trS A x)) (trS A x)) ++ eiL A (b + eiN A x) V).flatten := hp
            rw [List.flatten_append] at hp
            rcases List.mem_append.mp hp with h9 | h9
            · rw [shN_fl] at h9
              obtain ⟨q, -, q2⟩ := List.mem_map.mp h9
              rw [← q2]
              exact Nat.le_add_left _ _
            · have := ih _ p h9
              omega
        have := hb _ _ p p1
        show (if p.1 < b + eiN A u then _ else eiF A f (b + eiN A u) V p.1) = _
        rw [if_neg (by omega), p2]
/-- onto is one to one -/
theorem onto_inj {n : Nat} {h : Nat → Nat} (hs : ∀ k, k < n → ∃ x, x < n ∧ h x = k) {x y : Nat} (hx : x < n) (hy : y < n) (e : h x = h y) : x = y := by
  refine Classical.byContradiction (fun hne => ?_)
  have := nodup_le (List.range n) (((List.range n).erase x).map h) List.nodup_range (fun k hk => by
    obtain ⟨z, z1, z2⟩ := hs k (List.mem_range.mp hk)
    by_cases ez : z = x
    · exact List.mem_map.mpr ⟨y, (List.mem_erase_of_ne (fun e9 => hne e9.symm)).mpr (List.mem_range.mpr hy), by rw [← e, ← ez]; exact z2⟩
    · exact List.mem_map.mpr ⟨z, (List.mem_erase_of_ne ez).mpr (List.mem_range.mpr z1), z2⟩)
  rw [List.length_map, List.length_erase_of_mem (List.mem_range.mpr hx), List.length_range] at this
  omega
theorem cirs_rep {X : rn_L} {q : Nat} (h : ∀ L, L ∈ X → L ≠ []) : cirs (X ++ List.replicate q []) = q := by
  unfold cirs
  rw [List.countP_append, List.countP_replicate, List.countP_eq_zero.mpr (fun L hL e => h L hL (List.isEmpty_iff.mp e))]
  simp
variable {m : Nat → Nat} {P : Nat} {Cs : List cdT} {os : List Nat}
/-- THE CODES, and what they show -/
theorem enc_iso (hi : isoN A sg f T) (hA : A.length ≤ 6) (hT : nv T) (hk : mk A m P) (hZ : cpZ T (np_parts T.1 T.2.2.1.1).2 Cs os) : ∃ A' sg', pkR A sg m P = tk sg' A' ∧ okL A' T.1 ∧ enC T Cs os = clC sg' A' ∧ A'.length = A.length ∧ ∃ f', isoV A' sg' f' T := by
  have hperm := keys_perm hi (by omega) hT hk hZ
  obtain ⟨z1, z2, z3, z4⟩ := id hZ
  have hv := hT.1
  have hc := hT.2.1
  have hd := wkF_ok hi.1
  have ecs : (List.range Cs.length).map (fun s => Cs.getD s (0, [])) = Cs := by
    apply List.ext_getElem?
    intro i
    rw [List.getElem?_map]
    by_cases h : i < Cs.length
    · rw [List.getElem?_range h, List.getElem?_eq_getElem h]
      show some (Cs.getD i (0, [])) = _
      rw [List.getD_eq_getElem?_getD, List.getElem?_eq_getElem h]
      rfl
    · rw [List.getElem?_eq_none (by rw [List.length_range]; omega), List.getElem?_eq_none (by omega)]
      rfl
  have hos : (os.map (fun s => Cs.getD s (0, []))).Perm Cs := by
    have h1 := z3.map (fun s => Cs.getD s (0, []))
    rw [← z1, ecs] at h1
    exact h1
  have hKs : ∀ C, C ∈ os.map (fun s => Cs.getD s (0, [])) → ∃ B sgB, gp B C.1 ∧ C.2 = tk sgB B := by
    intro C hC
    have hC2 := hos.mem_iff.mp hC
    obtain ⟨r, hr⟩ := List.getElem?_of_mem hC2
    have hr2 := (List.getElem?_eq_some_iff.mp hr).1
    obtain ⟨p1, p2, p3, p4⟩ := parts_I hv hc
    obtain ⟨k, k1, k2⟩ := p3 r (by rw [← z1]; exact hr2)
    obtain ⟨v, v1, v2⟩ := lbv_sur hi k1
    obtain ⟨-, -, q3⟩ := part_key hi (by omega) hv hk v1 (by rw [v2]; exact k2) (z2 r C hr).1
    exact q3
  obtain ⟨Ps, hP1, hP2⟩ := prt_list hKs
  have hdP : (os.map (fun s => Cs.getD s (0, []))).map dbl = Ps.map (fun P => (2 * P.2.2, tk P.2.1 P.1)) := by
    rw [hP1, List.map_map]
    rfl
  have hsel := sel_perm (R := rwL A sg m P)
  have heq : (sel (rwL A sg m P) (rwL A sg m P).length (fun _ => false)).map (rAt (rwL A sg m P)) = Ps.map (fun P => (2 * P.2.2, tk P.2.1 P.1)) := by
    rw [← hdP]
    refine pw_eq hsel.2 ?_ (hsel.1.trans (((hos.map dbl).trans hperm).symm))
    rw [List.pairwise_map]
    exact (srt_pw z4).imp dbl_cmp
  have hpk := pkT_cat _ Ps 0 heq hP2
  obtain ⟨s1, s2⟩ := prt_sums Ps hP2
  obtain ⟨r1, r2⟩ := rwL_tot (sg := sg) hd hk
  have hpr : (Ps.map (fun P => (2 * P.2.2, tk P.2.1 P.1))).Perm (rwL A sg m P) := by
    rw [← heq]
    exact hsel.1
  have t1 := (hpr.map (fun r => r.1)).sum_nat
  have t2 := (hpr.map (fun r => r.2.length)).sum_nat
  rw [s1, r2] at t1
  rw [s2] at t2
  have hcir := cir_eq hk
  have hlen := hi.2.1
  have hcs : cirs A = T.2.1 := hi.2.2.2.2.2.2.2
  have htc : totC Ps = T.1 := by omega
  have htl : totL Ps + T.2.1 = A.length := by omega
  obtain ⟨c1, c2, c3, c4⟩ := catA_ok (q := T.2.1) hP2 (by omega) (by omega)
  have c1' : okL (catA Ps T.2.1) T.1 := by rw [← htc]; exact c1
  refine ⟨catA Ps T.2.1, catG 0 Ps, ?_, c1', ?_, by rw [c4]; exact htl, ?_⟩
  · unfold pkR
    rw [hpk, c3, hcir, hcs]
  · rw [c2, htc]
    unfold enC
    congr 2
    have : cdR Cs os = rowP Ps := by
      have h1 := congrArg (List.map (fun C : cdT => C.2)) hP1
      rw [List.map_map, List.map_map] at h1
      exact h1
    rw [this]
  -- a start for each part
  · have hst : ∀ p, ∃ v, pvl A m p A.flatten.length ≠ [] → v < A.flatten.length ∧ m (rn_c A v) = p ∧ lsC A sg (pvl A m p A.flatten.length) = some (cdv A sg v) := by
      intro p
      by_cases e : pvl A m p A.flatten.length = []
      · exact ⟨0, fun h9 => absurd e h9⟩
      · obtain ⟨U, hU⟩ := lsC_ne (sg := sg) e
        obtain ⟨v, v1, v2⟩ := lsC_mem _ hU
        have := pvl_m.mp v1
        exact ⟨v, fun _ => ⟨this.1, this.2, by rw [hU, v2]⟩⟩
    obtain ⟨st, hst⟩ := Classical.skolem.mp hst
    have hRe := rwL_eq (A := A) (sg := sg) (m := m) P
    generalize hFl : (List.range P).filter (fun p => !(pvl A m p A.flatten.length).isEmpty) = Fl at hRe
    have Fl_in : ∀ p, p ∈ Fl → p < P ∧ pvl A m p A.flatten.length ≠ [] := fun p hp => by
      rw [← hFl] at hp
      obtain ⟨h1, h2⟩ := List.mem_filter.mp hp
      exact ⟨List.mem_range.mp h1, fun e => by rw [e] at h2; cases h2⟩
    have hRl : (rwL A sg m P).length = Fl.length := by rw [hRe, List.length_map]
    have rA : ∀ i (h : i < Fl.length), (rAt (rwL A sg m P) i).2 = cdv A sg (st Fl[i]) := fun i h => by
      unfold rAt
      rw [hRe, List.getElem?_map, List.getElem?_eq_getElem h]
      show (lsC A sg (pvl A m Fl[i] A.flatten.length)).getD [] = _
      rw [(hst _ (Fl_in _ (List.getElem_mem h)).2).2.2]
      rfl
    obtain ⟨sp1, sp2, -⟩ := sel_spec (R := rwL A sg m P) (rwL A sg m P).length (fun _ => false) (rem_1 _)
    generalize hse : sel (rwL A sg m P) (rwL A sg m P).length (fun _ => false) = se at *
    have se_in : ∀ i, i ∈ se ↔ i < Fl.length := fun i => by
      rw [sp2 i, hRl]
      exact ⟨fun h => h.1, fun h => ⟨h, rfl⟩⟩
    let V := se.map (fun i => st (Fl.getD i 0))
    have hV : ∀ v, v ∈ V → v < A.flatten.length := fun v hv9 => by
      obtain ⟨i, i1, i2⟩ := List.mem_map.mp hv9
      have h := (se_in i).mp i1
      rw [← i2, List.getD_eq_getElem?_getD, List.getElem?_eq_getElem h]
      exact (hst _ (Fl_in _ (List.getElem_mem h)).2).1
    have hrow : Ps.map (fun P => tk P.2.1 P.1) = V.map (cdv A sg) := by
      have h1 := congrArg (List.map (fun r : Nat × List Nat => r.2)) heq
      rw [List.map_map, List.map_map] at h1
      have h2 : Ps.map (fun P => tk P.2.1 P.1) = se.map ((fun r : Nat × List Nat => r.2) ∘ rAt (rwL A sg m P)) := h1.symm
      rw [h2]
      show _ = (se.map (fun i => st (Fl.getD i 0))).map (cdv A sg)
      rw [List.map_map]
      refine List.map_congr_left (fun i hi9 => ?_)
      have h := (se_in i).mp hi9
      show (rAt (rwL A sg m P) i).2 = cdv A sg (st (Fl.getD i 0))
      rw [rA i h, List.getD_eq_getElem?_getD, List.getElem?_eq_getElem h]
      rfl
    obtain ⟨ce1, ce2⟩ := cat_ei hi.1 Ps V 0 hP2 hV hrow
    have hrows : ∀ L, L ∈ catL 0 Ps → ∃ s g, s < A.flatten.length ∧ L = (rgl A s).map g ∧ ∀ w, w ∈ rgl A s → 0 ≤ (g w).1 ∧ eiF A f 0 V (g w).1 = f (crs A w) ∧ (g w).2 = uns A w ∧ eiG A sg 0 V (g w).1 = sg (crs A w) := fun L hL => ei_row hi.1 V 0 hV L (by rw [← ce1]; exact hL)
    have hcov : ∀ w, w < A.flatten.length → ∃ p, p ∈ (catL 0 Ps).flatten ∧ eiF A f 0 V p.1 = f (crs A w) := by
      intro w hw
      have hcw := (rn_c_in A w hw).1
      have hpP := hk.1 _ hcw
      have hmem : w ∈ pvl A m (m (rn_c A w)) A.flatten.length := pvl_m.mpr ⟨hw, rfl⟩
      have hFm : m (rn_c A w) ∈ Fl := by
        rw [← hFl]
        refine List.mem_filter.mpr ⟨List.mem_range.mpr hpP, ?_⟩
        cases e : pvl A m (m (rn_c A w)) A.flatten.length with
        | nil => rw [e] at hmem; cases hmem
        | cons a X => rfl
      obtain ⟨i, i1, i2⟩ := List.mem_iff_getElem.mp hFm
      obtain ⟨q1, q2, -⟩ := hst (m (rn_c A w)) (Fl_in _ hFm).2
      have hsv : st (m (rn_c A w)) ∈ V := List.mem_map.mpr ⟨i, (se_in i).mpr i1, by rw [List.getD_eq_getElem?_getD, List.getElem?_eq_getElem i1, i2]; rfl⟩
      obtain ⟨u1, u2, -, -⟩ := trS_all hd q1
      have hin := vsO_of u1 hw ((trS_part hd hk q1 hcw).mpr q2.symm)
      rw [ce1]
      exact ei_all V 0 _ w hsv hin
    have fl9 : (catA Ps T.2.1).flatten = (catL 0 Ps).flatten := by
      unfold catA
      rw [List.flatten_append, fl_nil, List.append_nil]
    have hent : ∀ p, p ∈ (catL 0 Ps).flatten → ∃ w, w < A.flatten.length ∧ eiF A f 0 V p.1 = f (crs A w) ∧ eiG A sg 0 V p.1 = sg (crs A w) := by
      intro p hp
      obtain ⟨L, hL, hpL⟩ := List.mem_flatten.mp hp
      obtain ⟨s, g, s1, s2, s3⟩ := hrows L hL
      rw [s2] at hpL
      obtain ⟨w, w1, w2⟩ := List.mem_map.mp hpL
      obtain ⟨-, g2, -, g4⟩ := s3 w w1
      rw [w2] at g2 g4
      exact ⟨w, (rgl_c s1 w1).2, g2, g4⟩
    have hlt : ∀ p, p ∈ (catL 0 Ps).flatten → eiF A f 0 V p.1 < T.1 := fun p hp => by
      obtain ⟨w, w1, w2, -⟩ := hent p hp
      rw [w2]
      exact hi.2.2.2.1 w w1
    have hokA := c1'.1
    rw [fl9] at hokA
    refine ⟨eiF A f 0 V, isoV_of (isoS_iff.mp ⟨okF_wk (by omega) c1'.1, okF_len c1'.1, hc, ?_, ?_, ?_, ?_, ?_⟩) hv⟩
    · intro p hp
      rw [fl9] at hp
      exact hlt p hp
    · intro p q hp hq e
      rw [fl9] at hp hq
      refine onto_inj (n := T.1) (h := eiF A f 0 V) (fun k hk9 => ?_) ((hokA.2 p).mp hp).1 ((hokA.2 q).mp hq).1 e
      obtain ⟨w, w1, w2⟩ := lbv_sur hi (show 2 * k < 2 * T.1 by omega)
      obtain ⟨p', p1, p2⟩ := hcov w w1
      refine ⟨p'.1, ((hokA.2 p').mp p1).1, ?_⟩
      have := (lbv_hf hi w1).1
      rw [w2] at this
      rw [p2, ← this]
      omega
    · intro L hL p hpL
      rcases List.mem_append.mp hL with h9 | h9
      · have nL : L.Nodup := L_nd hokA.1 h9
        obtain ⟨s, g, s1, s2, s3⟩ := hrows L h9
        rw [s2] at hpL nL ⊢
        obtain ⟨w, w1, rfl⟩ := List.mem_map.mp hpL
        rw [rgl_sc s1 nL w1]
        have hw := rgl_c s1 w1
        have hnx : rn_nx A w ∈ rgl A s := rgl_all s1 (rnx_lt hw.2) (by rw [c_nx hw.2]; exact hw.1)
        obtain ⟨-, g2, g3, -⟩ := s3 w w1
        obtain ⟨-, k2, k3, -⟩ := s3 _ hnx
        unfold gl
        rw [g2, g3, k2, k3]
        exact hi.2.2.2.2.2.1 w hw.2
      · rw [List.eq_of_mem_replicate h9] at hpL
        cases hpL
    · intro p hp
      rw [fl9] at hp
      obtain ⟨w, w1, w2, w3⟩ := hent p hp
      rw [ce2 p hp, w2, w3]
      exact hi.2.2.2.2.2.2.1 w w1
    · refine cirs_rep (fun L hL e => ?_)
      obtain ⟨s, g, s1, s2, -⟩ := hrows L hL
      rw [e] at s2
      have h1 := congrArg List.length s2
      rw [List.length_map, rgl_len] at h1
      have := rlen_pos s1
      simp at h1
      omega
end EI
