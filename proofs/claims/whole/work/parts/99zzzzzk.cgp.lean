/-! the row of a part: numbered as it is met, and not closed before its end -/
theorem fo_snoc {F : List (Nat × Nat)} {p : Nat × Nat} (h : fo F) (hp : p.1 ≤ nm F) : fo (F ++ [p]) := by
  intro G q H e
  rcases List.eq_nil_or_concat H with e1 | ⟨H1, z, e1⟩
  · rw [e1] at e
    have := List.append_inj' e rfl
    rw [← this.1, ← (List.cons.inj this.2).1]
    exact hp
  · rw [e1, List.concat_eq_append] at e
    have e2 : F ++ [p] = (G ++ q :: H1) ++ [z] := by
      rw [e, List.append_assoc]
      rfl
    exact h G q H1 (List.append_inj' e2 rfl).1
theorem vOK_full {F : List (Nat × Nat)} (h : vOK F) (hl : 2 * nm F ≤ F.length) {q : Nat × Nat} (h1 : q.1 < nm F) (h2 : q.2 < 2) : q ∈ F := by
  apply Classical.byContradiction
  intro hn
  have hF : (F.map lb).Nodup := nodup_map h.1 (fun a b ha hb e => lb_inj (h.2 a ha) (h.2 b hb) e)
  have h3 : (lb q :: F.map lb).Nodup := by
    refine List.nodup_cons.mpr ⟨fun hm => ?_, hF⟩
    obtain ⟨p, hp, e⟩ := List.mem_map.mp hm
    rw [lb_inj (h.2 p hp) h2 e] at hp
    exact hn hp
  have h4 := nodup_le _ (List.range (2 * nm F)) h3 (fun a ha => by
    rw [List.mem_range]
    rcases List.mem_cons.mp ha with e | e
    · rw [e]
      unfold lb
      omega
    · obtain ⟨p, hp, e9⟩ := List.mem_map.mp e
      have := nm_lt F p hp
      have := h.2 p hp
      rw [← e9]
      unfold lb
      omega)
  rw [List.length_cons, List.length_map, List.length_range] at h4
  omega
/-- a part's own list of components -/
def gp (B : rn_L) (c : Nat) : Prop := okF B.flatten c ∧ fo B.flatten ∧ nm B.flatten = c ∧ B ≠ [] ∧ ∀ k, 0 < k → k < B.length → (B.take k).flatten.length < 2 * nm (B.take k).flatten
section CP
variable {A : rn_L}
theorem nm_rn : ∀ (ws xs : List Nat), nm (ws.map (rnv A (ws ++ xs))) = (fm A ws).length ∧ fo (ws.map (rnv A (ws ++ xs))) := by
  refine snocI (fun xs => ⟨rfl, fun G p H e => ?_⟩) (fun ws v ih xs => ?_)
  · cases G <;> cases e
  · have e0 : ws ++ [v] ++ xs = ws ++ (v :: xs) := by rw [List.append_assoc]; rfl
    obtain ⟨i1, i2⟩ := ih (v :: xs)
    rw [← e0] at i1 i2
    rw [List.map_append, List.map_cons, List.map_nil, fm_app]
    have hin : crs A v ∈ (ws ++ [v]).map (crs A) := by
      rw [List.map_append]
      exact List.mem_append_right _ (List.mem_singleton.mpr rfl)
    have hp : (rnv A (ws ++ [v] ++ xs) v).1 = num A (ws ++ [v]) (crs A v) - 1 := by
      show num A (ws ++ [v] ++ xs) (crs A v) - 1 = _
      rw [num_st hin]
    by_cases hc : crs A v ∈ (fm A ws).map (crs A)
    · have hc2 := (fm_cr ws).mp hc
      have h1 := num_le hc2
      have h0 : 1 ≤ num A ws (crs A v) := by unfold num; omega
      rw [num_st hc2] at hp
      rw [show fmA A (fm A ws) v = fm A ws from if_pos hc]
      refine ⟨?_, fo_snoc i2 (by omega)⟩
      rw [nm_app, if_pos (by omega), i1]
    · have e1 : fm A (ws ++ [v]) = fm A ws ++ [v] := by
        rw [fm_app]
        exact if_neg hc
      have h1 : num A (ws ++ [v]) (crs A v) = (fm A ws).length + 1 := by
        refine num_of ?_
        rw [e1, List.getElem?_append_right (Nat.le_refl _), Nat.sub_self]
        rfl
      rw [show fmA A (fm A ws) v = fm A ws ++ [v] from if_neg hc]
      refine ⟨?_, fo_snoc i2 (by omega)⟩
      rw [nm_app, if_neg (by omega), List.length_append, hp, h1]
      rfl
theorem tr_ext : ∀ (fu : Nat) (S : List Nat), ∃ X, trF A fu S = S ++ X
  | 0, S => ⟨[], (List.append_nil S).symm⟩
  | fu + 1, S => by
    cases h : nxS A S with
    | none => exact ⟨[], by rw [trF_none h, List.append_nil]⟩
    | some w =>
      obtain ⟨X, e⟩ := tr_ext fu (S ++ [w])
      exact ⟨[w] ++ X, by rw [trF_some h, e, List.append_assoc]⟩
theorem tr_pre : ∀ (fu : Nat) (S : List Nat) (k : Nat), S.length ≤ k → k < (trF A fu S).length → ∃ w, (trF A fu S)[k]? = some w ∧ nxS A ((trF A fu S).take k) = some w
  | 0, S, k => fun h1 h2 => by
    have h2 : k < S.length := h2
    omega
  | fu + 1, S, k => fun h1 h2 => by
    cases h : nxS A S with
    | none =>
      rw [trF_none h] at h2
      omega
    | some w =>
      rw [trF_some h] at h2 ⊢
      by_cases e : k = S.length
      · obtain ⟨X, eX⟩ := tr_ext (A := A) fu (S ++ [w])
        rw [eX, e]
        refine ⟨w, ?_, ?_⟩
        · rw [List.append_assoc, List.getElem?_append_right (Nat.le_refl _), Nat.sub_self]
          rfl
        · rw [List.append_assoc, List.take_left]
          exact h
      · refine tr_pre fu (S ++ [w]) k ?_ h2
        rw [List.length_append]
        show S.length + 1 ≤ k
        omega
theorem vsO_pre {X Y : List Nat} : vsO A (X ++ Y) = vsO A X ++ vsO A Y := by
  unfold vsO
  rw [List.map_append, List.flatten_append]
theorem tS_pre {X Y : List Nat} (h : tS A (X ++ Y)) : tS A X := by
  refine ⟨?_, fun s hs => h.2 s (List.mem_append_left _ hs)⟩
  have h1 := h.1
  rw [List.map_append] at h1
  exact (List.nodup_append.mp h1).1
theorem num_inj {vs : List Nat} {v w : Nat} (hv : v ∈ vs) (hw : w ∈ vs) (e : num A vs (crs A v) - 1 = num A vs (crs A w) - 1) : crs A v = crs A w := by
  obtain ⟨a, a1, a2⟩ := num_at (A := A) (List.mem_map.mpr ⟨v, hv, rfl⟩)
  obtain ⟨b, b1, b2⟩ := num_at (A := A) (List.mem_map.mpr ⟨w, hw, rfl⟩)
  rw [e, b1] at a1
  cases a1
  rw [← a2, ← b2]
theorem cdv_gp {sg : Nat → Bool} {s : Nat} (hF : wkF A.flatten) (hs : s < A.flatten.length) : ∃ B sgB, gp B (fm A (vsO A (trS A s))).length ∧ cdv A sg s = tk sgB B ∧ B.flatten.length = (vsO A (trS A s)).length ∧ B.length = (trS A s).length := by
  have hd := wkF_ok hF
  obtain ⟨t1, t2, t3, t4⟩ := trS_all hd hs
  have hok := rnN_ok hF t1 t2
  have hlen1 : 1 ≤ (trS A s).length := by
    cases e : trS A s with
    | nil => rw [e] at t3; cases t3
    | cons a L => exact Nat.succ_pos _
  refine ⟨rnN A (vsO A (trS A s)) (trS A s), rnG A sg (vsO A (trS A s)), ⟨hok, ?_, ?_, ?_, fun k hk1 hk2 => ?_⟩, tks_tk _ (fun v hv => hv), ?_, rnN_len⟩
  · rw [rnN_fl]
    have := (nm_rn (A := A) (vsO A (trS A s)) []).2
    rw [List.append_nil] at this
    exact this
  · rw [rnN_fl]
    have := (nm_rn (A := A) (vsO A (trS A s)) []).1
    rw [List.append_nil] at this
    exact this
  · intro e
    have := rnN_len (A := A) (vs := vsO A (trS A s)) (S := trS A s)
    rw [e] at this
    have h0 : 0 = (trS A s).length := this
    omega
  · rw [rnN_len] at hk2
    obtain ⟨w, w1, w2⟩ := tr_pre (A := A) A.length [s] k hk1 hk2
    have w1 : (trS A s)[k]? = some w := w1
    have w2 : nxS A ((trS A s).take k) = some w := w2
    have ett : (trS A s).take k ++ (trS A s).drop k = trS A s := List.take_append_drop _ _
    have htS : tS A ((trS A s).take k) := tS_pre (Y := (trS A s).drop k) (by rw [ett]; exact t1)
    have evs : vsO A (trS A s) = vsO A ((trS A s).take k) ++ vsO A ((trS A s).drop k) := by
      rw [← vsO_pre, ett]
    have eB : (rnN A (vsO A (trS A s)) (trS A s)).take k = rnN A (vsO A (trS A s)) ((trS A s).take k) := by
      unfold rnN
      rw [List.map_take]
    have hnm := (nm_rn (A := A) (vsO A ((trS A s).take k)) (vsO A ((trS A s).drop k))).1
    rw [← evs] at hnm
    have hvk : vOK ((vsO A ((trS A s).take k)).map (rnv A (vsO A (trS A s)))) := by
      refine vOK_pre (G := (vsO A ((trS A s).drop k)).map (rnv A (vsO A (trS A s)))) ?_
      rw [← List.map_append, ← evs, ← rnN_fl]
      exact ⟨hok.1, fun p hp => ((hok.2 p).mp hp).2⟩
    rw [eB, rnN_fl, List.length_map]
    apply Nat.lt_of_not_le
    intro hle
    -- the mate that is not gone yet
    have hx := w2
    unfold nxS at hx
    rw [Option.map_eq_some_iff] at hx
    obtain ⟨v, h1, h2⟩ := hx
    have hvm := fm_mem _ (List.mem_of_find?_eq_some h1)
    have hv := (vsO_in htS hvm).1
    obtain ⟨h3, h4, -⟩ := nxS_step hd htS w2
    have hm := mtf_mt hd hv
    rw [h2] at hm
    have hw := (rn_mt_lt hm).2
    have hcr : crs A w = crs A v := by
      obtain ⟨-, p, q, e1, e2, e3⟩ := hm
      unfold crs
      rw [vAt_eq e1, vAt_eq e2]
      exact e3.symm
    have hwn : w ∉ vsO A ((trS A s).take k) := fun h9 => by
      rw [(gn_vs htS hw).mpr h9] at h4
      cases h4
    have hvin : v ∈ vsO A (trS A s) := by
      rw [evs]
      exact List.mem_append_left _ hvm
    have hcm : crs A v ∈ (vsO A ((trS A s).take k)).map (crs A) := List.mem_map.mpr ⟨v, hvm, rfl⟩
    have hq : (num A (vsO A (trS A s)) (crs A w) - 1, uns A w) ∈ (vsO A ((trS A s).take k)).map (rnv A (vsO A (trS A s))) := by
      refine vOK_full hvk (by rw [List.length_map]; exact hle) ?_ (uns_lt hF hw)
      show num A (vsO A (trS A s)) (crs A w) - 1 < nm _
      rw [hnm, hcr, evs, num_st hcm]
      have := num_le hcm
      have : 1 ≤ num A (vsO A ((trS A s).take k)) (crs A v) := by unfold num; omega
      omega
    obtain ⟨w', hw1, hw2⟩ := List.mem_map.mp hq
    have hw'in : w' ∈ vsO A (trS A s) := by
      rw [evs]
      exact List.mem_append_left _ hw1
    have hn1 : num A (vsO A (trS A s)) (crs A w') - 1 = num A (vsO A (trS A s)) (crs A v) - 1 := by
      rw [← hcr]
      exact congrArg Prod.fst hw2
    have hc1 := (num_inj hw'in hvin hn1).trans hcr.symm
    have hu2 := congrArg Prod.snd hw2
    have hu1 : uns A w' = uns A w := hu2
    have hw'l := (vsO_in htS hw1).1
    have e6 : vAt A w' = vAt A w := Prod.ext hc1 hu1
    have : w' = w := by
      refine nodup_at hF.1 (vAt_of hw'l) ?_
      rw [e6]
      exact vAt_of hw
    rw [this] at hw1
    exact hwn hw1
  · rw [rnN_fl, List.length_map]
end CP
