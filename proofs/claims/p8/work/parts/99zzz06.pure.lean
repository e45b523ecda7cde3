section
/-! 99zzzzzi.cldr -/
/-! a code read: the net shows the list of components that the code is written from -/
/-- how many crossings have been named -/
def nm (F : List (Nat × Nat)) : Nat := F.foldl (fun m p => if p.1 < m then m else p.1 + 1) 0
theorem nm_app {F : List (Nat × Nat)} {p : Nat × Nat} : nm (F ++ [p]) = if p.1 < nm F then nm F else p.1 + 1 := by
  unfold nm
  rw [List.foldl_append]
  rfl
/-- crossings are numbered as they are met -/
def fo (F : List (Nat × Nat)) : Prop := ∀ G p H, F = G ++ p :: H → p.1 ≤ nm G
theorem snoc_ind {P : List (Nat × Nat) → Prop} (h0 : P []) (h1 : ∀ F p, P F → P (F ++ [p])) : ∀ F, P F := by
  intro F
  have : ∀ n, ∀ F : List (Nat × Nat), F.length = n → P F := by
    intro n
    induction n with
    | zero => intro F h; rw [List.length_eq_zero_iff.mp h]; exact h0
    | succ n ih =>
      intro F h
      rcases List.eq_nil_or_concat F with e | ⟨L, b, e⟩
      · rw [e] at h; cases h
      · rw [e, List.concat_eq_append]
        refine h1 L b (ih L ?_)
        rw [e, List.concat_eq_append, List.length_append] at h
        have h' : L.length + 1 = n + 1 := h
        omega
  exact this _ F rfl
theorem nm_lt : ∀ F : List (Nat × Nat), ∀ p, p ∈ F → p.1 < nm F := by
  refine snoc_ind (fun p hp => by cases hp) (fun F q ih p hp => ?_)
  rw [nm_app]
  rcases List.mem_append.mp hp with h | h
  · have := ih p h
    split <;> omega
  · rw [List.mem_singleton.mp h]
    split <;> omega
theorem fo_pre {F G : List (Nat × Nat)} (h : fo (F ++ G)) : fo F := fun A p H e => h A p (H ++ G) (by rw [e, List.append_assoc]; rfl)
theorem fo_at {F : List (Nat × Nat)} {p : Nat × Nat} (h : fo (F ++ [p])) : p.1 ≤ nm F := h F p [] rfl
theorem nm_all : ∀ F : List (Nat × Nat), fo F → ∀ x, x < nm F → ∃ u, (x, u) ∈ F := by
  refine snoc_ind (fun _ x hx => absurd hx (Nat.not_lt_zero _)) (fun F p ih h x hx => ?_)
  have h1 := fo_at h
  rw [nm_app] at hx
  by_cases e : x < nm F
  · obtain ⟨u, hu⟩ := ih (fo_pre h) x e
    exact ⟨u, List.mem_append_left _ hu⟩
  · have e2 : x = p.1 := by
      split at hx <;> omega
    exact ⟨p.2, List.mem_append_right _ (by rw [e2]; exact List.mem_singleton.mpr rfl)⟩
def lb (p : Nat × Nat) : Nat := 2 * p.1 + p.2
theorem lb_inj {p q : Nat × Nat} (hp : p.2 < 2) (hq : q.2 < 2) (e : lb p = lb q) : p = q := by
  unfold lb at e
  exact Prod.ext (by omega) (by omega)
/-- visits of a list: each once, over or under -/
def vOK (F : List (Nat × Nat)) : Prop := F.Nodup ∧ ∀ p, p ∈ F → p.2 < 2
theorem vOK_len {F : List (Nat × Nat)} (h : vOK F) : F.length ≤ 2 * nm F := by
  have h1 : (F.map lb).Nodup := nodup_map h.1 (fun a b ha hb e => lb_inj (h.2 a ha) (h.2 b hb) e)
  have h2 := nodup_le _ (List.range (2 * nm F)) h1 (fun a ha => by
    obtain ⟨p, hp, e⟩ := List.mem_map.mp ha
    have := nm_lt F p hp
    have := h.2 p hp
    rw [List.mem_range, ← e]
    unfold lb
    omega)
  rw [List.length_map, List.length_range] at h2
  exact h2
theorem vOK_pre {F G : List (Nat × Nat)} (h : vOK (F ++ G)) : vOK F := ⟨(List.nodup_append.mp h.1).1, fun p hp => h.2 p (List.mem_append_left _ hp)⟩
theorem vOK_new {F : List (Nat × Nat)} {p q : Nat × Nat} (h : vOK (F ++ [p])) (hq : q ∈ F) : lb q ≠ lb p := by
  intro e
  have h1 := lb_inj (h.2 q (List.mem_append_left _ hq)) (h.2 p (List.mem_append_right _ (List.mem_singleton.mpr rfl))) e
  have h2 := (List.nodup_append.mp h.1).2.2
  exact h2 q hq p (List.mem_singleton.mpr rfl) h1
theorem vOK_ne {F : List (Nat × Nat)} (h : vOK F) {i j : Nat} {p q : Nat × Nat} (e1 : F[i]? = some p) (e2 : F[j]? = some q) (hij : i ≠ j) : lb p ≠ lb q := by
  intro e
  have h1 := lb_inj (h.2 p (List.mem_of_getElem? e1)) (h.2 q (List.mem_of_getElem? e2)) e
  rw [← h1] at e2
  exact hij (nodup_at h.1 e1 e2)
-- lists of components with one more
section AP
variable {A : rn_L} {L : List (Nat × Nat)}
theorem fl_app : (A ++ [L]).flatten = A.flatten ++ L := by
  rw [List.flatten_append, List.flatten_cons, List.flatten_nil, List.append_nil]
theorem rnb_app {c : Nat} (hc : c ≤ A.length) : rn_b (A ++ [L]) c = rn_b A c := by
  unfold rn_b
  rw [List.take_append_of_le_length hc]
theorem rnb_end : rn_b (A ++ [L]) (A.length + 1) = A.flatten.length + L.length := by
  have h : (A ++ [L]).take (A.length + 1) = A ++ [L] := List.take_of_length_le (by rw [List.length_append]; exact Nat.le_refl _)
  unfold rn_b
  rw [h, fl_app, List.length_append]
theorem rnb_fl : rn_b (A ++ [L]) A.length = A.flatten.length := by
  rw [rnb_app (Nat.le_refl _)]
  exact rn_b_len A
theorem rnc_app {v : Nat} (hv : v < A.flatten.length) : rn_c (A ++ [L]) v = rn_c A v := by
  obtain ⟨h1, h2, h3⟩ := rn_c_in A v hv
  refine rn_c_of _ _ _ ?_ ?_
  · rw [rnb_app (by omega)]
    exact h2
  · rw [rnb_app (by omega)]
    exact h3
theorem rnc_new {i : Nat} (hi : i < L.length) : rn_c (A ++ [L]) (A.flatten.length + i) = A.length := by
  refine rn_c_of _ _ _ ?_ ?_
  · rw [rnb_fl]
    omega
  · rw [rnb_end]
    omega
theorem rnx_app {v : Nat} (hv : v < A.flatten.length) : rn_nx (A ++ [L]) v = rn_nx A v := by
  obtain ⟨h1, h2, h3⟩ := rn_c_in A v hv
  unfold rn_nx
  rw [rnc_app hv, rnb_app (by omega), rnb_app (by omega)]
theorem rnx_new {i : Nat} (hi : i < L.length) : rn_nx (A ++ [L]) (A.flatten.length + i) = if i + 1 < L.length then A.flatten.length + (i + 1) else A.flatten.length := by
  unfold rn_nx
  rw [rnc_new hi, rnb_end, rnb_fl]
  by_cases h : i + 1 < L.length
  · rw [if_pos (by omega), if_pos h]
    omega
  · rw [if_neg (by omega), if_neg h]
theorem vAt_ap {v : Nat} (hv : v < A.flatten.length) : vAt (A ++ [L]) v = vAt A v := by
  refine vAt_eq ?_
  rw [fl_app, List.getElem?_append_left hv]
  exact vAt_of hv
theorem vAt_nw {i : Nat} {p : Nat × Nat} (e : L[i]? = some p) : vAt (A ++ [L]) (A.flatten.length + i) = p := by
  refine vAt_eq ?_
  rw [fl_app, List.getElem?_append_right (by omega), show A.flatten.length + i - A.flatten.length = i by omega]
  exact e
theorem rnx_lt {v : Nat} (hv : v < A.flatten.length) : rn_nx A v < A.flatten.length := by
  obtain ⟨h1, h2, h3⟩ := rn_c_in A v hv
  have h4 := rn_b_le A (rn_c A v + 1)
  unfold rn_nx
  split <;> omega
end AP
/-- the cell of a visit in a part that begins at crossing b -/
def clc (sg : Nat → Bool) (b : Nat) (p : Nat × Nat) : Nat := 4 * (p.1 - b + 1) + 2 * p.2 + if sg p.1 then 1 else 0
/-- where the next component's numbers begin -/
def nxb (b : Nat) (D : rn_L) : Nat := if 2 * nm D.flatten - D.flatten.length = 0 then nm D.flatten else b
/-- the class's row of a list of components: behind D, with the numbers from b on -/
def ucd (sg : Nat → Bool) : Nat → rn_L → rn_L → List Nat
  | _, _, [] => []
  | b, D, L :: R => L.map (clc sg b) ++ 0 :: ucd sg (nxb b (D ++ [L])) (D ++ [L]) R
/-- what has been read: components A, an open one L -/
def ldS (sg : Nat → Bool) (A : rn_L) (L : List (Nat × Nat)) (b : Nat) (t : ow_LD) : Prop := t.2.1 = (cirs A, A.length, b, nm (A.flatten ++ L), 2 * nm (A.flatten ++ L) - (A.flatten ++ L).length, (A.flatten ++ L).length) ∧ t.2.2.1 = L.head?.map lb ∧ (L ≠ [] → t.2.2.2 = L.getLast?.map lb) ∧ (∀ v, v < A.flatten.length → t.1.1.1 (lb (vAt A v)) = lb (vAt A (rn_nx A v)) ∧ t.1.1.2 (lb (vAt A (rn_nx A v))) = lb (vAt A v)) ∧ (∀ i p q, L[i]? = some p → L[i + 1]? = some q → t.1.1.1 (lb p) = lb q ∧ t.1.1.2 (lb q) = lb p) ∧ (∀ p, p ∈ A.flatten ++ L → t.1.2.1 p.1 = if sg p.1 then -1 else 1) ∧ (∀ i p, (A.flatten ++ L)[i]? = some p → t.1.2.2.1 i = nI (lb p)) ∧ (∀ v, v < A.flatten.length → t.1.2.2.2 (lb (vAt A v)) = nI (rn_c A v)) ∧ ∀ p, p ∈ L → t.1.2.2.2 (lb p) = nI A.length
theorem vAt_mem {A : rn_L} {v : Nat} (h : v < A.flatten.length) : vAt A v ∈ A.flatten := List.mem_of_getElem? (vAt_of h)
theorem cirs_app {A : rn_L} {L : List (Nat × Nat)} : cirs (A ++ [L]) = cirs A + if L = [] then 1 else 0 := by
  unfold cirs
  rw [List.countP_append, List.countP_singleton]
  cases L with
  | nil => rfl
  | cons a L => rfl
theorem ldS_zero {sg : Nat → Bool} {A : rn_L} {L : List (Nat × Nat)} {b : Nat} {t : ow_LD} (hv : vOK (A.flatten ++ L)) (h : ldS sg A L b t) : ∃ t1, ld_cell t 0 = some t1 ∧ ldS sg (A ++ [L]) [] (nxb b (A ++ [L])) t1 := by
  obtain ⟨⟨S, G, Fo, Fc⟩, ⟨ci, co, ba, na, lo, cn⟩, fi, la⟩ := t
  obtain ⟨h1, h2, h3, h4, h5, h6, h7, h8, h9⟩ := h
  dsimp only at h1 h2 h3 h4 h5 h6 h7 h8 h9
  injection h1 with e1 h1
  injection h1 with e2 h1
  injection h1 with e3 h1
  injection h1 with e4 h1
  injection h1 with e5 e6
  refine ⟨ld_zero S G Fo Fc ci co ba na lo cn fi la, by rw [ld_cell_eq, if_pos rfl], ?_⟩
  have hnum : (ld_zero S G Fo Fc ci co ba na lo cn fi la).2.1 = (cirs (A ++ [L]), (A ++ [L]).length, nxb b (A ++ [L]), nm ((A ++ [L]).flatten ++ []), 2 * nm ((A ++ [L]).flatten ++ []) - ((A ++ [L]).flatten ++ []).length, ((A ++ [L]).flatten ++ []).length) := by
    rw [List.append_nil, fl_app, ← e4, ← e6, cirs_app, List.length_append, ← e1, ← e2]
    unfold nxb
    rw [fl_app, ← e4, ← e6]
    show ((match fi with | none => ci + 1 | some _ => ci), co + 1, (if lo = 0 then na else ba), na, lo, cn) = _
    have e5' : lo = 2 * na - cn := by rw [e5, e4, e6]
    rw [← e5', e3]
    cases L with
    | nil =>
      rw [h2, if_pos rfl]
      rfl
    | cons p L =>
      rw [h2, if_neg (List.cons_ne_nil p L)]
      rfl
  have hG : ∀ p, p ∈ (A ++ [L]).flatten ++ [] → G p.1 = if sg p.1 then -1 else 1 := by
    rw [List.append_nil, fl_app]
    exact h6
  have hF : ∀ i p, ((A ++ [L]).flatten ++ [])[i]? = some p → Fo i = nI (lb p) := by
    rw [List.append_nil, fl_app]
    exact h7
  have hc : ∀ v, v < (A ++ [L]).flatten.length → Fc (lb (vAt (A ++ [L]) v)) = nI (rn_c (A ++ [L]) v) := by
    intro v hv1
    rw [fl_app, List.length_append] at hv1
    by_cases e : v < A.flatten.length
    · rw [vAt_ap e, rnc_app e]
      exact h8 v e
    · obtain ⟨i, rfl⟩ : ∃ i, v = A.flatten.length + i := ⟨v - A.flatten.length, by omega⟩
      have hi : i < L.length := by omega
      rw [vAt_nw (List.getElem?_eq_getElem hi), rnc_new hi]
      exact h9 _ (List.getElem_mem hi)
  refine ⟨hnum, rfl, fun h => absurd rfl h, ?_, (fun i p q e => by rw [List.getElem?_nil] at e; cases e), hG, hF, hc, fun p hp => by cases hp⟩
  intro v hv1
  rw [fl_app, List.length_append] at hv1
  cases L with
  | nil =>
    rw [h2]
    show S.1 _ = _ ∧ S.2 _ = _
    have e : v < A.flatten.length := hv1
    rw [vAt_ap e, rnx_app e, vAt_ap (rnx_lt e)]
    exact h4 v e
  | cons p L =>
    have hla : la = ((p :: L).getLast?).map lb := h3 (by intro h; cases h)
    have hlen : (p :: L).length = L.length + 1 := rfl
    obtain ⟨q, hq⟩ : ∃ q, (p :: L)[L.length]? = some q := ⟨_, List.getElem?_eq_getElem (Nat.lt_succ_self _)⟩
    have hq2 : (p :: L).getLast? = some q := by
      rw [List.getLast?_eq_getElem?]
      exact hq
    rw [hq2] at hla
    rw [h2, hla]
    show (nl S (lb q) (lb p)).1 _ = _ ∧ (nl S (lb q) (lb p)).2 _ = _
    have n1 : ∀ k, k ≠ lb q → (nl S (lb q) (lb p)).1 k = S.1 k := fun k hk => if_neg hk
    have n2 : ∀ k, k ≠ lb p → (nl S (lb q) (lb p)).2 k = S.2 k := fun k hk => if_neg hk
    have n3 : (nl S (lb q) (lb p)).1 (lb q) = lb p := if_pos rfl
    have n4 : (nl S (lb q) (lb p)).2 (lb p) = lb q := if_pos rfl
    have hqF : (A.flatten ++ p :: L)[A.flatten.length + L.length]? = some q := by
      rw [List.getElem?_append_right (by omega), show A.flatten.length + L.length - A.flatten.length = L.length by omega]
      exact hq
    have hpF : (A.flatten ++ p :: L)[A.flatten.length]? = some p := by
      rw [List.getElem?_append_right (Nat.le_refl _), Nat.sub_self]
      rfl
    by_cases e : v < A.flatten.length
    · have hx := rnx_lt e
      rw [vAt_ap e, rnx_app e, vAt_ap hx]
      have g1 : (A.flatten ++ p :: L)[v]? = some (vAt A v) := by
        rw [List.getElem?_append_left e]
        exact vAt_of e
      have g2 : (A.flatten ++ p :: L)[rn_nx A v]? = some (vAt A (rn_nx A v)) := by
        rw [List.getElem?_append_left hx]
        exact vAt_of hx
      rw [n1 _ (vOK_ne hv g1 hqF (by omega)), n2 _ (vOK_ne hv g2 hpF (by omega))]
      exact h4 v e
    · obtain ⟨i, rfl⟩ : ∃ i, v = A.flatten.length + i := ⟨v - A.flatten.length, by omega⟩
      have hi : i < (p :: L).length := by omega
      rw [rnx_new hi]
      by_cases hi2 : i + 1 < (p :: L).length
      · rw [if_pos hi2, vAt_nw (List.getElem?_eq_getElem hi), vAt_nw (List.getElem?_eq_getElem hi2)]
        have g1 : (A.flatten ++ p :: L)[A.flatten.length + i]? = some (p :: L)[i] := by
          rw [List.getElem?_append_right (by omega), show A.flatten.length + i - A.flatten.length = i by omega]
          exact List.getElem?_eq_getElem hi
        have g2 : (A.flatten ++ p :: L)[A.flatten.length + (i + 1)]? = some (p :: L)[i + 1] := by
          rw [List.getElem?_append_right (by omega), show A.flatten.length + (i + 1) - A.flatten.length = i + 1 by omega]
          exact List.getElem?_eq_getElem hi2
        rw [n1 _ (vOK_ne hv g1 hqF (by omega)), n2 _ (vOK_ne hv g2 hpF (by omega))]
        exact h5 i _ _ (List.getElem?_eq_getElem hi) (List.getElem?_eq_getElem hi2)
      · have ei : i = L.length := by omega
        rw [if_neg hi2, ei, vAt_nw hq, show A.flatten.length = A.flatten.length + 0 from rfl, vAt_nw (A := A) (L := p :: L) (i := 0) (p := p) rfl]
        exact ⟨n3, n4⟩
theorem ldS_visit {sg : Nat → Bool} {A : rn_L} {L : List (Nat × Nat)} {b : Nat} {t : ow_LD} {p : Nat × Nat} (hv : vOK (A.flatten ++ (L ++ [p]))) (hfo : fo (A.flatten ++ (L ++ [p]))) (hb : b ≤ p.1) (h12 : p.1 < 12) (h24 : (A.flatten ++ L).length < 24) (h : ldS sg A L b t) : ∃ t1, ld_cell t (clc sg b p) = some t1 ∧ ldS sg A (L ++ [p]) b t1 := by
  obtain ⟨⟨S, G, Fo, Fc⟩, ⟨ci, co, ba, na, lo, cn⟩, fi, la⟩ := t
  obtain ⟨h1, h2, h3, h4, h5, h6, h7, h8, h9⟩ := h
  dsimp only at h1 h2 h3 h4 h5 h6 h7 h8 h9
  injection h1 with e1 h1
  injection h1 with e2 h1
  injection h1 with e3 h1
  injection h1 with e4 h1
  injection h1 with e5 e6
  rw [← List.append_assoc] at hv hfo
  have hp2 : p.2 < 2 := hv.2 p (List.mem_append_right _ (List.mem_singleton.mpr rfl))
  have hfa := fo_at hfo
  have hlen := vOK_len hv
  have hlen0 := vOK_len (vOK_pre hv)
  rw [nm_app, List.length_append] at hlen
  have hlen' : (A.flatten ++ L).length + 1 ≤ 2 * (if p.1 < nm (A.flatten ++ L) then nm (A.flatten ++ L) else p.1 + 1) := hlen
  have hs2 : (if sg p.1 = true then 1 else 0) < 2 := by split <;> omega
  have c1 : clc sg b p / 4 = p.1 - b + 1 := by
    unfold clc
    omega
  have c2 : clc sg b p / 2 % 2 = p.2 := by
    unfold clc
    omega
  have c3 : clc sg b p % 2 = if sg p.1 = true then 1 else 0 := by
    unfold clc
    omega
  have cx : ba + clc sg b p / 4 - 1 = p.1 := by
    rw [c1, e3]
    omega
  refine ⟨ld_visit S G Fo Fc ci co ba na lo cn fi la p.1 (lb p) (if sg p.1 then -1 else 1), ?_, ?_⟩
  · have hcd : 4 ≤ clc sg b p ∧ p.1 < 12 ∧ cn < 24 ∧ (p.1 < na → 0 < lo) := by
      refine ⟨by unfold clc; omega, h12, by omega, fun hx => ?_⟩
      rw [e4] at hx
      rw [if_pos hx] at hlen'
      omega
    rw [ld_cell_eq, if_neg (by unfold clc; omega), cx, if_pos hcd, c2, c3]
    show some (ld_visit S G Fo Fc ci co ba na lo cn fi la p.1 (2 * p.1 + p.2) _) = some (ld_visit S G Fo Fc ci co ba na lo cn fi la p.1 (2 * p.1 + p.2) _)
    cases sg p.1 <;> rfl
  · have hloc : ∀ q, q ∈ A.flatten ++ L → lb q ≠ lb p := fun q hq => vOK_new hv hq
    have hnum : (ld_visit S G Fo Fc ci co ba na lo cn fi la p.1 (lb p) (if sg p.1 then -1 else 1)).2.1 = (cirs A, A.length, b, nm (A.flatten ++ (L ++ [p])), 2 * nm (A.flatten ++ (L ++ [p])) - (A.flatten ++ (L ++ [p])).length, (A.flatten ++ (L ++ [p])).length) := by
      rw [← List.append_assoc, nm_app, List.length_append, ← e4, ← e6]
      show (ci, co, ba, (if p.1 < na then na else p.1 + 1), (if p.1 < na then lo - 1 else lo + 1), cn + 1) = (cirs A, A.length, b, (if p.1 < na then na else p.1 + 1), 2 * (if p.1 < na then na else p.1 + 1) - (cn + 1), cn + 1)
      have e5' : lo = 2 * na - cn := by rw [e5, e4, e6]
      have hl0 : cn ≤ 2 * na := by rw [e4, e6]; exact hlen0
      rw [← e1, ← e2, e3]
      congr 4
      by_cases hx : p.1 < na
      · rw [if_pos hx, if_pos hx]
        congr 1
        omega
      · rw [if_neg hx, if_neg hx]
        congr 1
        have : p.1 = na := by
          rw [← e4] at hfa
          omega
        omega
    refine ⟨hnum, ?_, fun _ => ?_, fun v hv1 => ?_, fun i q r eq er => ?_, fun q hq => ?_, fun i q eq => ?_, fun v hv1 => ?_, fun q hq => ?_⟩
    · show some (fi.getD (lb p)) = _
      rw [h2]
      cases L with
      | nil => rfl
      | cons q L => rfl
    · show some (lb p) = _
      rw [List.getLast?_append]
      rfl
    · -- the closed components stay
      show (match fi with | none => S | some _ => nl S (la.getD 0) (lb p)).1 _ = _ ∧ (match fi with | none => S | some _ => nl S (la.getD 0) (lb p)).2 _ = _
      cases L with
      | nil =>
        rw [h2]
        exact h4 v hv1
      | cons q0 L =>
        have hla : la = ((q0 :: L).getLast?).map lb := h3 (by intro h; cases h)
        obtain ⟨q, hq⟩ : ∃ q, (q0 :: L)[L.length]? = some q := ⟨_, List.getElem?_eq_getElem (Nat.lt_succ_self _)⟩
        have hq2 : (q0 :: L).getLast? = some q := by
          rw [List.getLast?_eq_getElem?]
          exact hq
        rw [hq2] at hla
        rw [h2, hla]
        have hx := rnx_lt hv1
        have g1 : (A.flatten ++ q0 :: L)[v]? = some (vAt A v) := by
          rw [List.getElem?_append_left hv1]
          exact vAt_of hv1
        have hqF : (A.flatten ++ q0 :: L)[A.flatten.length + L.length]? = some q := by
          rw [List.getElem?_append_right (by omega), show A.flatten.length + L.length - A.flatten.length = L.length by omega]
          exact hq
        have m1 : lb (vAt A v) ≠ lb q := vOK_ne (vOK_pre hv) g1 hqF (by omega)
        have m2 : lb (vAt A (rn_nx A v)) ≠ lb p := hloc _ (List.mem_append_left _ (vAt_mem hx))
        show (if lb (vAt A v) = lb q then lb p else S.1 (lb (vAt A v))) = _ ∧ (if lb (vAt A (rn_nx A v)) = lb p then lb q else S.2 (lb (vAt A (rn_nx A v)))) = _
        rw [if_neg m1, if_neg m2]
        exact h4 v hv1
    · -- the last one grows
      show (match fi with | none => S | some _ => nl S (la.getD 0) (lb p)).1 _ = _ ∧ (match fi with | none => S | some _ => nl S (la.getD 0) (lb p)).2 _ = _
      cases L with
      | nil =>
        rw [List.nil_append] at er
        rw [List.getElem?_cons_succ, List.getElem?_nil] at er
        cases er
      | cons q0 L =>
        have hla : la = ((q0 :: L).getLast?).map lb := h3 (by intro h; cases h)
        obtain ⟨z, hz⟩ : ∃ z, (q0 :: L)[L.length]? = some z := ⟨_, List.getElem?_eq_getElem (Nat.lt_succ_self _)⟩
        have hz2 : (q0 :: L).getLast? = some z := by
          rw [List.getLast?_eq_getElem?]
          exact hz
        rw [hz2] at hla
        rw [h2, hla]
        show (if lb q = lb z then lb p else S.1 (lb q)) = lb r ∧ (if lb r = lb p then lb z else S.2 (lb r)) = lb q
        have hi := (List.getElem?_eq_some_iff.mp er).1
        rw [List.length_append] at hi
        have hi' : i + 1 < L.length + 1 + 1 := hi
        have hzF : (A.flatten ++ q0 :: L)[A.flatten.length + L.length]? = some z := by
          rw [List.getElem?_append_right (by omega), show A.flatten.length + L.length - A.flatten.length = L.length by omega]
          exact hz
        by_cases ei : i = L.length
        · have er' : r = p := by
            rw [ei, List.getElem?_append_right (show (q0 :: L).length ≤ L.length + 1 from Nat.le_refl _)] at er
            rw [show L.length + 1 - (q0 :: L).length = 0 from Nat.sub_self _] at er
            cases er
            rfl
          have eq' : q = z := by
            rw [ei, List.getElem?_append_left (Nat.lt_succ_self _)] at eq
            rw [hz] at eq
            cases eq
            rfl
          rw [er', eq', if_pos rfl, if_pos rfl]
          exact ⟨rfl, rfl⟩
        · rw [List.getElem?_append_left (show i < L.length + 1 by omega)] at eq
          rw [List.getElem?_append_left (show i + 1 < L.length + 1 by omega)] at er
          have g1 : (A.flatten ++ q0 :: L)[A.flatten.length + i]? = some q := by
            rw [List.getElem?_append_right (by omega), show A.flatten.length + i - A.flatten.length = i by omega]
            exact eq
          rw [if_neg (vOK_ne (vOK_pre hv) g1 hzF (by omega)), if_neg (hloc r (List.mem_append_right _ (List.mem_of_getElem? er)))]
          exact h5 i q r eq er
    · show (if p.1 < na then G else su G p.1 (if sg p.1 then -1 else 1)) q.1 = _
      rw [← List.append_assoc] at hq
      rcases List.mem_append.mp hq with hq1 | hq1
      · have hlt := nm_lt _ q hq1
        by_cases hx : p.1 < na
        · rw [if_pos hx]
          exact h6 q hq1
        · rw [if_neg hx]
          show (if q.1 = p.1 then _ else G q.1) = _
          rw [if_neg (by rw [e4] at hx; omega)]
          exact h6 q hq1
      · rw [List.mem_singleton.mp hq1]
        by_cases hx : p.1 < na
        · rw [if_pos hx]
          obtain ⟨u, hu⟩ := nm_all _ (fo_pre hfo) p.1 (by rw [← e4]; exact hx)
          exact h6 (p.1, u) hu
        · rw [if_neg hx]
          exact if_pos rfl
    · show su Fo cn (nI (lb p)) i = _
      rw [← List.append_assoc] at eq
      by_cases ei : i = cn
      · rw [ei]
        rw [ei, e6, List.getElem?_append_right (Nat.le_refl _), Nat.sub_self] at eq
        cases eq
        exact if_pos rfl
      · have hi := (List.getElem?_eq_some_iff.mp eq).1
        rw [List.length_append] at hi
        have hi' : i < (A.flatten ++ L).length + 1 := hi
        rw [List.getElem?_append_left (by omega)] at eq
        rw [show su Fo cn (nI (lb p)) i = Fo i from if_neg ei]
        exact h7 i q eq
    · show su Fc (lb p) (nI co) (lb (vAt A v)) = _
      rw [show su Fc (lb p) (nI co) (lb (vAt A v)) = Fc (lb (vAt A v)) from if_neg (hloc _ (List.mem_append_left _ (vAt_mem hv1)))]
      exact h8 v hv1
    · show su Fc (lb p) (nI co) (lb q) = _
      rcases List.mem_append.mp hq with hq1 | hq1
      · rw [show su Fc (lb p) (nI co) (lb q) = Fc (lb q) from if_neg (hloc _ (List.mem_append_right _ hq1))]
        exact h9 q hq1
      · rw [List.mem_singleton.mp hq1, show su Fc (lb p) (nI co) (lb p) = nI co from if_pos rfl, e2]
theorem ldR_app : ∀ (X Y : List Nat) (t : ow_LD), ldR (X ++ Y) t = (ldR X t).bind (ldR Y)
  | [], Y, t => rfl
  | c :: X, Y, t => by
    show (ld_cell t c).bind (ldR (X ++ Y)) = ((ld_cell t c).bind (ldR X)).bind (ldR Y)
    cases ld_cell t c with
    | none => rfl
    | some u => exact ldR_app X Y u
theorem ldS_comp {sg : Nat → Bool} {A : rn_L} {b : Nat} : ∀ (R L : List (Nat × Nat)) (t : ow_LD), vOK (A.flatten ++ (L ++ R)) → fo (A.flatten ++ (L ++ R)) → (∀ p, p ∈ R → b ≤ p.1 ∧ p.1 < 12) → (A.flatten ++ (L ++ R)).length ≤ 24 → ldS sg A L b t → ∃ t1, ldR (R.map (clc sg b)) t = some t1 ∧ ldS sg A (L ++ R) b t1
  | [], L, t => fun _ _ _ _ h => ⟨t, rfl, by rw [List.append_nil]; exact h⟩
  | p :: R, L, t => fun hv hf hb hl h => by
    have e : L ++ p :: R = L ++ [p] ++ R := by rw [List.append_assoc]; rfl
    rw [e] at hv hf hl ⊢
    have hv1 : vOK (A.flatten ++ (L ++ [p])) := vOK_pre (G := R) (by rw [List.append_assoc]; exact hv)
    have hf1 : fo (A.flatten ++ (L ++ [p])) := fo_pre (G := R) (by rw [List.append_assoc]; exact hf)
    have hl1 : (A.flatten ++ L).length < 24 := by
      rw [List.length_append, List.length_append, List.length_append] at hl
      rw [List.length_append]
      have : [p].length = 1 := rfl
      omega
    obtain ⟨t1, h1, h2⟩ := ldS_visit hv1 hf1 (hb p (List.mem_cons_self ..)).1 (hb p (List.mem_cons_self ..)).2 hl1 h
    obtain ⟨t2, h3, h4⟩ := ldS_comp R (L ++ [p]) t1 hv hf (fun q hq => hb q (List.mem_cons_of_mem _ hq)) hl h2
    refine ⟨t2, ?_, h4⟩
    show (ld_cell t (clc sg b p)).bind (ldR (R.map (clc sg b))) = some t2
    rw [h1]
    exact h3
/-- the numbers of each component begin at its base or behind -/
def bsO : Nat → rn_L → rn_L → Prop
  | _, _, [] => True
  | b, D, L :: R => (∀ p, p ∈ L → b ≤ p.1) ∧ bsO (nxb b (D ++ [L])) (D ++ [L]) R
theorem ldS_all {sg : Nat → Bool} : ∀ (R A : rn_L) (b : Nat) (t : ow_LD), vOK (A ++ R).flatten → fo (A ++ R).flatten → (∀ p, p ∈ (A ++ R).flatten → p.1 < 12) → (A ++ R).flatten.length ≤ 24 → bsO b A R → ldS sg A [] b t → ∃ t1 b1, ldR (ucd sg b A R) t = some t1 ∧ ldS sg (A ++ R) [] b1 t1
  | [], A, b, t => fun _ _ _ _ _ h => ⟨t, b, rfl, by rw [List.append_nil]; exact h⟩
  | L :: R, A, b, t => fun hv hf h12 hl hb h => by
    have e : A ++ L :: R = A ++ [L] ++ R := by rw [List.append_assoc]; rfl
    rw [e] at hv hf h12 hl ⊢
    have e2 : (A ++ [L] ++ R).flatten = A.flatten ++ L ++ R.flatten := by rw [List.flatten_append, fl_app]
    have hv1 : vOK (A.flatten ++ L) := vOK_pre (G := R.flatten) (by rw [← e2]; exact hv)
    have hf1 : fo (A.flatten ++ L) := fo_pre (G := R.flatten) (by rw [← e2]; exact hf)
    have hl1 : (A.flatten ++ L).length ≤ 24 := by
      rw [e2, List.length_append] at hl
      omega
    obtain ⟨t1, h1, h2⟩ := ldS_comp (sg := sg) (b := b) L [] t hv1 hf1 (fun p hp => ⟨hb.1 p hp, h12 p (by rw [e2]; exact List.mem_append_left _ (List.mem_append_right _ hp))⟩) hl1 h
    obtain ⟨t2, h3, h4⟩ := ldS_zero (A := A) (L := L) hv1 h2
    obtain ⟨t3, b3, h5, h6⟩ := ldS_all R (A ++ [L]) _ t2 hv hf h12 hl hb.2 h4
    refine ⟨t3, b3, ?_, h6⟩
    show ldR (L.map (clc sg b) ++ 0 :: ucd sg (nxb b (A ++ [L])) (A ++ [L]) R) t = some t3
    rw [ldR_app, h1]
    show (ld_cell t1 0).bind (ldR (ucd sg (nxb b (A ++ [L])) (A ++ [L]) R)) = some t3
    rw [h3]
    exact h5
/-- a list of components that codes are written from -/
def okL (A : rn_L) (c : Nat) : Prop := okF A.flatten c ∧ fo A.flatten ∧ bsO 0 [] A ∧ c ≤ 12 ∧ A.length ≤ 6
theorem ldS_net {sg : Nat → Bool} {A : rn_L} {c b : Nat} {t : ow_LD} (hA : okL A c) (h : ldS sg A [] b t) : isoN A sg (fun x => x) (c, t.2.1.1, t.1.1, t.1.2.1) ∧ vn c t.1.1 := by
  obtain ⟨h1, h2, h3, h4, h5, h6, h7, h8, h9⟩ := h
  obtain ⟨o1, o2, o3, o4, o5⟩ := hA
  have hw : wkF A.flatten := okF_wk (by omega) o1
  have hlen : A.flatten.length = 2 * c := okF_len o1
  have hlb : ∀ v, lbv A (fun x => x) v = lb (vAt A v) := fun v => rfl
  have hin : ∀ v, v < A.flatten.length → crs A v < c ∧ uns A v < 2 := fun v hv => (o1.2 _).mp (vAt_mem hv)
  have hiso : isoN A sg (fun x => x) (c, t.2.1.1, t.1.1, t.1.2.1) := by
    refine ⟨hw, hlen, o4, fun v hv => (hin v hv).1, fun v w _ _ e => e, fun v hv => (h4 v hv).1, fun v hv => ?_, by rw [h1]⟩
    show t.1.2.1 (crs A v) < 0 ↔ _
    rw [show t.1.2.1 (crs A v) = if sg (crs A v) then -1 else 1 from h6 (vAt A v) (List.mem_append_left _ (vAt_mem hv))]
    cases sg (crs A v)
    · exact ⟨fun h => absurd h (by decide), fun h => by cases h⟩
    · exact ⟨fun _ => rfl, fun _ => by decide⟩
  refine ⟨hiso, fun k hk => ?_⟩
  obtain ⟨v, hv, e⟩ := lbv_sur hiso hk
  have hx := rnx_lt hv
  have hlx : lb (vAt A (rn_nx A v)) < 2 * c := lbv_lt hiso hx
  have e' : lb (vAt A v) = k := e
  obtain ⟨w, hw1, hw2⟩ : ∃ w, w < A.flatten.length ∧ rn_nx A w = v := by
    exact ⟨rn_pv A v, rn_pv_lt hv, nx_pv hv⟩
  have hlw : lb (vAt A w) < 2 * c := lbv_lt hiso hw1
  have q1 := h4 v hv
  have q2 := h4 w hw1
  rw [hw2] at q2
  rw [← e']
  refine ⟨?_, ?_, ?_, ?_⟩
  · rw [q1.1]
    exact hlx
  · rw [q2.2]
    exact hlw
  · rw [q1.1]
    exact q1.2
  · rw [q2.2]
    exact q2.1
end
section
/-! 99zzzzzj.cldn -/
/-! a code loaded: the net is valid -/
theorem snocI {α : Type} {P : List α → Prop} (h0 : P []) (h1 : ∀ F p, P F → P (F ++ [p])) : ∀ F, P F := by
  intro F
  have : ∀ n, ∀ F : List α, F.length = n → P F := by
    intro n
    induction n with
    | zero => intro F h; rw [List.length_eq_zero_iff.mp h]; exact h0
    | succ n ih =>
      intro F h
      rcases List.eq_nil_or_concat F with e | ⟨L, b, e⟩
      · rw [e] at h; cases h
      · rw [e, List.concat_eq_append]
        refine h1 L b (ih L ?_)
        rw [e, List.concat_eq_append, List.length_append] at h
        have h' : L.length + 1 = n + 1 := h
        omega
  exact this _ F rfl
def neB (A : rn_L) (c : Nat) : Bool := !((A[c]?).getD []).isEmpty
theorem ne_cnt : ∀ A : rn_L, cntB (neB A) A.length + cirs A = A.length := by
  refine snocI rfl (fun A L ih => ?_)
  rw [cirs_app, List.length_append]
  show cntB (neB (A ++ [L])) A.length + (if neB (A ++ [L]) A.length = true then 1 else 0) + _ = A.length + 1
  have e1 : cntB (neB (A ++ [L])) A.length = cntB (neB A) A.length := by
    refine cntB_cg _ (fun k hk => ?_)
    unfold neB
    rw [List.getElem?_append_left hk]
  have e2 : neB (A ++ [L]) A.length = !L.isEmpty := by
    unfold neB
    rw [List.getElem?_append_right (Nat.le_refl _), Nat.sub_self]
    rfl
  rw [e1, e2]
  cases L with
  | nil =>
    rw [if_neg (by decide), if_pos rfl]
    omega
  | cons p L =>
    rw [if_neg (List.cons_ne_nil p L)]
    show cntB (neB A) A.length + 1 + (cirs A + 0) = A.length + 1
    omega
theorem rnb_s {A : rn_L} {c : Nat} (hc : c < A.length) : rn_b A (c + 1) = rn_b A c + (A[c]).length := by
  unfold rn_b
  rw [List.take_add_one, List.getElem?_eq_getElem hc, List.flatten_append, List.length_append]
  show _ + ([A[c]].flatten).length = _
  rw [List.flatten_cons, List.flatten_nil, List.append_nil]
theorem neB_in {A : rn_L} {v : Nat} (hv : v < A.flatten.length) : neB A (rn_c A v) = true := by
  obtain ⟨h1, h2, h3⟩ := rn_c_in A v hv
  have h4 := rnb_s h1
  unfold neB
  rw [List.getElem?_eq_getElem h1]
  show (!(A[rn_c A v]).isEmpty) = true
  cases e : A[rn_c A v] with
  | nil =>
    rw [e] at h4
    have h4' : rn_b A (rn_c A v + 1) = rn_b A (rn_c A v) := h4
    omega
  | cons p L => rfl
section CJ
variable {A : rn_L} {sg : Nat → Bool} {f : Nat → Nat} {T : ow_NT}
theorem iso_it (hi : isoN A sg f T) {s : Nat} (hs : s < A.flatten.length) : ∀ j, j < rlen A (rn_c A s) → it T.2.2.1.1 j (lbv A f s) = lbv A f (rv A s j) := by
  intro j
  induction j with
  | zero =>
    intro _
    rw [rv_0 hs]
    rfl
  | succ j ih =>
    intro hj
    have h1 := ih (by omega)
    have h2 := hi.2.2.2.2.2.1 _ (rv_lt hs (show j < rlen A (rn_c A s) by omega))
    rw [rv_nx hs (by omega), if_neg (by omega)] at h2
    show T.2.2.1.1 (it T.2.2.1.1 j (lbv A f s)) = _
    rw [h1]
    exact h2
theorem iso_same (hi : isoN A sg f T) {v w : Nat} (hv : v < A.flatten.length) (hw : w < A.flatten.length) (hc : rn_c A w = rn_c A v) : ∃ i, i < 24 ∧ it T.2.2.1.1 i (lbv A f v) = lbv A f w := by
  obtain ⟨i, h1, h2⟩ := rgl_mem (rgl_all hv hw hc)
  have h3 := rlen_le hv
  have h4 := hi.2.1
  have h5 := hi.2.2.1
  refine ⟨i, by omega, ?_⟩
  rw [iso_it hi hv i h1, h2]
theorem iso_rg (hi : isoN A sg f T) : np_rg T.1 T.2.2.1 + T.2.1 ≤ A.length := by
  have hex : ∀ k, k < 2 * T.1 → ∃ v, v < A.flatten.length ∧ lbv A f v = k := fun k hk => lbv_sur hi hk
  let inv : Nat → Nat := fun k => if h : ∃ v, v < A.flatten.length ∧ lbv A f v = k then Classical.choose h else 0
  have hinv : ∀ k, k < 2 * T.1 → inv k < A.flatten.length ∧ lbv A f (inv k) = k := by
    intro k hk
    have h := hex k hk
    have e : inv k = Classical.choose h := dif_pos h
    rw [e]
    exact Classical.choose_spec h
  have h1 : np_rg T.1 T.2.2.1 ≤ cntB (neB A) A.length := by
    refine cntB_inj (2 * T.1) (fun k => lst T.2.2.1.1 k 24) (neB A) (fun k => rn_c A (inv k)) (fun k hk _ => ⟨(rn_c_in A _ (hinv k hk).1).1, neB_in (hinv k hk).1⟩) (fun k j hk hj qk qj e => ?_)
    have a1 := hinv k hk
    have a2 := hinv j hj
    obtain ⟨i1, i2, i3⟩ := iso_same hi a1.1 a2.1 e.symm
    obtain ⟨j1, j2, j3⟩ := iso_same hi a2.1 a1.1 e
    rw [a1.2, a2.2] at i3 j3
    have b1 := (lst_t 24).mp qk i1 i2
    have b2 := (lst_t 24).mp qj j1 j2
    omega
  have h2 := ne_cnt A
  have h3 : cirs A = T.2.1 := hi.2.2.2.2.2.2.2
  omega
end CJ
/-- reading keeps a net's numbers below 24 -/
theorem ld_b24 : ∀ (L : List Nat) (t t1 : ow_LD), ldR L t = some t1 → ow_b24 t.1.1 → (∀ a, t.2.2.1 = some a → a < 24) → (∀ a, t.2.2.2 = some a → a < 24) → ow_b24 t1.1.1
  | [], t, t1, h, hb, _, _ => by
    cases h
    exact hb
  | c :: L, t, t1, h, hb, hf, hl => by
    have h : (ld_cell t c).bind (ldR L) = some t1 := h
    obtain ⟨⟨S, G, Fo, Fc⟩, ⟨ci, co, ba, na, lo, cn⟩, fi, la⟩ := t
    dsimp only at hb hf hl
    have hla : la.getD 0 < 24 := by
      cases la with
      | none => exact Nat.succ_pos 23
      | some a => exact hl a rfl
    have hnl : ∀ a b, a < 24 → b < 24 → ow_b24 (nl S a b) := by
      intro a b ha hb2
      refine ⟨fun k => ?_, fun k => ?_⟩
      · show (if k = a then b else S.1 k) < 24
        split
        · exact hb2
        · exact hb.1 k
      · show (if k = b then a else S.2 k) < 24
        split
        · exact ha
        · exact hb.2 k
    rw [ld_cell_eq] at h
    by_cases e0 : c = 0
    · rw [if_pos e0] at h
      refine ld_b24 L (ld_zero S G Fo Fc ci co ba na lo cn fi la) t1 h ?_ (fun a e => by cases e) hl
      cases fi with
      | none => exact hb
      | some a => exact hnl _ _ hla (hf a rfl)
    · rw [if_neg e0] at h
      by_cases e1 : 4 ≤ c ∧ ba + c / 4 - 1 < 12 ∧ cn < 24 ∧ (ba + c / 4 - 1 < na → 0 < lo)
      · rw [if_pos e1] at h
        have hv : 2 * (ba + c / 4 - 1) + c / 2 % 2 < 24 := by omega
        refine ld_b24 L _ t1 h ?_ (fun a e => ?_) (fun a e => ?_)
        · cases fi with
          | none => exact hb
          | some a => exact hnl _ _ hla hv
        · have e : some (fi.getD (2 * (ba + c / 4 - 1) + c / 2 % 2)) = some a := e
          cases fi with
          | none =>
            cases e
            exact hv
          | some b =>
            cases e
            exact hf _ rfl
        · have e : some (2 * (ba + c / 4 - 1) + c / 2 % 2) = some a := e
          cases e
          exact hv
      · rw [if_neg e1] at h
        cases h
theorem ucd_len {sg : Nat → Bool} : ∀ (R D : rn_L) (b : Nat), (ucd sg b D R).length = R.flatten.length + R.length
  | [], _, _ => rfl
  | L :: R, D, b => by
    show (L.map (clc sg b) ++ 0 :: ucd sg (nxb b (D ++ [L])) (D ++ [L]) R).length = _
    rw [List.length_append, List.length_cons, ucd_len R, List.length_map, List.flatten_cons, List.length_append, List.length_cons]
    omega
theorem ucd_64 {sg : Nat → Bool} : ∀ (R D : rn_L) (b : Nat), (∀ p, p ∈ R.flatten → p.1 < 12 ∧ p.2 < 2) → ∀ a, a ∈ ucd sg b D R → a < 64
  | [], _, _ => fun _ a ha => by cases ha
  | L :: R, D, b => fun h a ha => by
    have ha : a ∈ L.map (clc sg b) ++ 0 :: ucd sg (nxb b (D ++ [L])) (D ++ [L]) R := ha
    rcases List.mem_append.mp ha with h1 | h1
    · obtain ⟨p, hp, e⟩ := List.mem_map.mp h1
      have := h p (by rw [List.flatten_cons]; exact List.mem_append_left _ hp)
      rw [← e]
      unfold clc
      split <;> omega
    · rcases List.mem_cons.mp h1 with h2 | h2
      · omega
      · exact ucd_64 R _ _ (fun p hp => h p (by rw [List.flatten_cons]; exact List.mem_append_right _ hp)) a h2
/-- the class's code of a list of components -/
def clC (sg : Nat → Bool) (A : rn_L) : cdT := (A.flatten.length / 2, ucd sg 0 [] A)
theorem okL_c {A : rn_L} {c : Nat} {sg : Nat → Bool} (h : okL A c) : (clC sg A).1 = c ∧ cOK (clC sg A) := by
  have h1 := okF_len h.1
  have h2 := h.2.2.2.1
  have h3 := h.2.2.2.2
  have e : (clC sg A).1 = c := by
    show A.flatten.length / 2 = c
    omega
  refine ⟨e, by rw [e]; exact h2, ?_, ?_⟩
  · show (ucd sg 0 [] A).length ≤ 30
    rw [ucd_len]
    omega
  · exact ucd_64 A [] 0 (fun p hp => by have := (h.1.2 p).mp hp; omega)
section CK2
variable {vl : Nat → Nat} {y : ow_MS} {h g p s : Nat} {A : rn_L} {sg : Nat → Bool} {c : Nat} {T : ow_NT}
/-- the net at h shows A, as it is loaded: the visits' order and components lie beside -/
def shA (y : ow_MS) (h : Nat) (A : rn_L) (sg : Nat → Bool) (T : ow_NT) : Prop := cAt y h T ∧ isoN A sg (fun x => x) T ∧ nv T ∧ (∀ i q, A.flatten[i]? = some q → y.2.1 (h + 4) i = nI (lb q)) ∧ (∀ v, v < A.flatten.length → y.2.1 (h + 5) (lb (vAt A v)) = nI (rn_c A v)) ∧ y.1 (h + 10) = nI A.length
theorem tc_load2 (hh : nH h) (hg : tH g p) (hd : h + 12 ≤ g ∨ g + 6 ≤ h) (hs : s < p) (hA : okL A c) (hC : slC y g s (clC sg A)) (hy : cAt y h T) (hb : ow_b24 T.2.2.1) : Te (fun K => ce_X7_load vl K h g (nI s) y) (fun y1 => (∃ T1, shA y1 h A sg T1 ∧ T1.1 = c ∧ T1.2.1 = cirs A) ∧ fr (cL h) y y1) := by
  obtain ⟨ec, oC⟩ := okL_c (sg := sg) hA
  obtain ⟨o1, o2, o3, o4, o5⟩ := id hA
  have hv : vOK A.flatten := ⟨o1.1, fun p hp => ((o1.2 p).mp hp).2⟩
  have hl := okF_len o1
  have hinit : ldS sg [] [] 0 (ld_init T.2.2.1 T.2.2.2 (y.2.1 (h + 4)) (y.2.1 (h + 5))) := by
    refine ⟨rfl, rfl, fun h => absurd rfl h, fun v hv => absurd hv (Nat.not_lt_zero _), fun i p q e => ?_, fun p hp => (by cases hp), fun i p e => ?_, fun v hv => absurd hv (Nat.not_lt_zero _), fun p hp => (by cases hp)⟩
    · rw [List.getElem?_nil] at e
      cases e
    · have e : ([] : List (Nat × Nat))[i]? = some p := e
      rw [List.getElem?_nil] at e
      cases e
  obtain ⟨t, b1, h1, h2⟩ := ldS_all (sg := sg) A [] 0 (ld_init T.2.2.1 T.2.2.2 (y.2.1 (h + 4)) (y.2.1 (h + 5))) hv o2 (fun p hp => by have := ((o1.2 p).mp hp).1; omega) (by rw [List.nil_append]; omega) o3 hinit
  rw [List.nil_append] at h2
  refine w_monoE (tc_load hh hg hd hs hC oC hy (fun _ => rfl) (fun _ => rfl) h1) ?_
  rintro y1 ⟨l1, l2⟩
  obtain ⟨n1, n2⟩ := ldS_net hA h2
  have hb1 := ld_b24 _ _ _ h1 hb (fun a e => by cases e) (fun a e => by cases e)
  have hr := iso_rg n1
  obtain ⟨g1, g2, g3, g4⟩ := l1
  rw [ec] at g1
  have hci : t.2.1.1 = cirs A := by rw [h2.1]
  have hco : t.2.1.2.1 = A.length := by rw [h2.1]
  refine ⟨⟨(c, t.2.1.1, t.1.1, t.1.2.1), ⟨g1, n1, ⟨n2, o4, hb1, by omega⟩, fun i q e => ?_, fun v hv1 => ?_, ?_⟩, rfl, hci⟩, l2⟩
  · rw [g2 i]
    exact h2.2.2.2.2.2.2.1 i q (by rw [List.append_nil]; exact e)
  · rw [g3]
    exact h2.2.2.2.2.2.2.2.1 v hv1
  · rw [g4, hco]
end CK2
end
section
/-! 99zzzzzk.cgp -/
/-! the row of a part: numbered as it is met, and not closed before its end -/
theorem fo_snoc {F : List (Nat × Nat)} {p : Nat × Nat} (h : fo F) (hp : p.1 ≤ nm F) : fo (F ++ [p]) := by
  intro G q H e
  rcases List.eq_nil_or_concat H with e1 | ⟨H1, z, e1⟩
  · rw [e1] at e
    have := List.append_inj' e rfl
    rw [← this.1, ← (List.cons.inj this.2).1]
    exact hp
  · rw [e1, List.concat_eq_append] at e
    have e2 : F ++ [p] = (G ++ q :: H1) ++ [z] := by
      rw [e, List.append_assoc]
      rfl
    exact h G q H1 (List.append_inj' e2 rfl).1
theorem vOK_full {F : List (Nat × Nat)} (h : vOK F) (hl : 2 * nm F ≤ F.length) {q : Nat × Nat} (h1 : q.1 < nm F) (h2 : q.2 < 2) : q ∈ F := by
  apply Classical.byContradiction
  intro hn
  have hF : (F.map lb).Nodup := nodup_map h.1 (fun a b ha hb e => lb_inj (h.2 a ha) (h.2 b hb) e)
  have h3 : (lb q :: F.map lb).Nodup := by
    refine List.nodup_cons.mpr ⟨fun hm => ?_, hF⟩
    obtain ⟨p, hp, e⟩ := List.mem_map.mp hm
    rw [lb_inj (h.2 p hp) h2 e] at hp
    exact hn hp
  have h4 := nodup_le _ (List.range (2 * nm F)) h3 (fun a ha => by
    rw [List.mem_range]
    rcases List.mem_cons.mp ha with e | e
    · rw [e]
      unfold lb
      omega
    · obtain ⟨p, hp, e9⟩ := List.mem_map.mp e
      have := nm_lt F p hp
      have := h.2 p hp
      rw [← e9]
      unfold lb
      omega)
  rw [List.length_cons, List.length_map, List.length_range] at h4
  omega
/-- a part's own list of components -/
def gp (B : rn_L) (c : Nat) : Prop := okF B.flatten c ∧ fo B.flatten ∧ nm B.flatten = c ∧ B ≠ [] ∧ ∀ k, 0 < k → k < B.length → (B.take k).flatten.length < 2 * nm (B.take k).flatten
section CP
variable {A : rn_L}
theorem nm_rn : ∀ (ws xs : List Nat), nm (ws.map (rnv A (ws ++ xs))) = (fm A ws).length ∧ fo (ws.map (rnv A (ws ++ xs))) := by
  refine snocI (fun xs => ⟨rfl, fun G p H e => ?_⟩) (fun ws v ih xs => ?_)
  · cases G <;> cases e
  · have e0 : ws ++ [v] ++ xs = ws ++ (v :: xs) := by rw [List.append_assoc]; rfl
    obtain ⟨i1, i2⟩ := ih (v :: xs)
    rw [← e0] at i1 i2
    rw [List.map_append, List.map_cons, List.map_nil, fm_app]
    have hin : crs A v ∈ (ws ++ [v]).map (crs A) := by
      rw [List.map_append]
      exact List.mem_append_right _ (List.mem_singleton.mpr rfl)
    have hp : (rnv A (ws ++ [v] ++ xs) v).1 = num A (ws ++ [v]) (crs A v) - 1 := by
      show num A (ws ++ [v] ++ xs) (crs A v) - 1 = _
      rw [num_st hin]
    by_cases hc : crs A v ∈ (fm A ws).map (crs A)
    · have hc2 := (fm_cr ws).mp hc
      have h1 := num_le hc2
      have h0 : 1 ≤ num A ws (crs A v) := by unfold num; omega
      rw [num_st hc2] at hp
      rw [show fmA A (fm A ws) v = fm A ws from if_pos hc]
      refine ⟨?_, fo_snoc i2 (by omega)⟩
      rw [nm_app, if_pos (by omega), i1]
    · have e1 : fm A (ws ++ [v]) = fm A ws ++ [v] := by
        rw [fm_app]
        exact if_neg hc
      have h1 : num A (ws ++ [v]) (crs A v) = (fm A ws).length + 1 := by
        refine num_of ?_
        rw [e1, List.getElem?_append_right (Nat.le_refl _), Nat.sub_self]
        rfl
      rw [show fmA A (fm A ws) v = fm A ws ++ [v] from if_neg hc]
      refine ⟨?_, fo_snoc i2 (by omega)⟩
      rw [nm_app, if_neg (by omega), List.length_append, hp, h1]
      rfl
theorem tr_ext : ∀ (fu : Nat) (S : List Nat), ∃ X, trF A fu S = S ++ X
  | 0, S => ⟨[], (List.append_nil S).symm⟩
  | fu + 1, S => by
    cases h : nxS A S with
    | none => exact ⟨[], by rw [trF_none h, List.append_nil]⟩
    | some w =>
      obtain ⟨X, e⟩ := tr_ext fu (S ++ [w])
      exact ⟨[w] ++ X, by rw [trF_some h, e, List.append_assoc]⟩
theorem tr_pre : ∀ (fu : Nat) (S : List Nat) (k : Nat), S.length ≤ k → k < (trF A fu S).length → ∃ w, (trF A fu S)[k]? = some w ∧ nxS A ((trF A fu S).take k) = some w
  | 0, S, k => fun h1 h2 => by
    have h2 : k < S.length := h2
    omega
  | fu + 1, S, k => fun h1 h2 => by
    cases h : nxS A S with
    | none =>
      rw [trF_none h] at h2
      omega
    | some w =>
      rw [trF_some h] at h2 ⊢
      by_cases e : k = S.length
      · obtain ⟨X, eX⟩ := tr_ext (A := A) fu (S ++ [w])
        rw [eX, e]
        refine ⟨w, ?_, ?_⟩
        · rw [List.append_assoc, List.getElem?_append_right (Nat.le_refl _), Nat.sub_self]
          rfl
        · rw [List.append_assoc, List.take_left]
          exact h
      · refine tr_pre fu (S ++ [w]) k ?_ h2
        rw [List.length_append]
        show S.length + 1 ≤ k
        omega
theorem vsO_pre {X Y : List Nat} : vsO A (X ++ Y) = vsO A X ++ vsO A Y := by
  unfold vsO
  rw [List.map_append, List.flatten_append]
theorem tS_pre {X Y : List Nat} (h : tS A (X ++ Y)) : tS A X := by
  refine ⟨?_, fun s hs => h.2 s (List.mem_append_left _ hs)⟩
  have h1 := h.1
  rw [List.map_append] at h1
  exact (List.nodup_append.mp h1).1
theorem num_inj {vs : List Nat} {v w : Nat} (hv : v ∈ vs) (hw : w ∈ vs) (e : num A vs (crs A v) - 1 = num A vs (crs A w) - 1) : crs A v = crs A w := by
  obtain ⟨a, a1, a2⟩ := num_at (A := A) (List.mem_map.mpr ⟨v, hv, rfl⟩)
  obtain ⟨b, b1, b2⟩ := num_at (A := A) (List.mem_map.mpr ⟨w, hw, rfl⟩)
  rw [e, b1] at a1
  cases a1
  rw [← a2, ← b2]
theorem cdv_gp {sg : Nat → Bool} {s : Nat} (hF : wkF A.flatten) (hs : s < A.flatten.length) : ∃ B sgB, gp B (fm A (vsO A (trS A s))).length ∧ cdv A sg s = tk sgB B ∧ B.flatten.length = (vsO A (trS A s)).length ∧ B.length = (trS A s).length := by
  have hd := wkF_ok hF
  obtain ⟨t1, t2, t3, t4⟩ := trS_all hd hs
  have hok := rnN_ok hF t1 t2
  have hlen1 : 1 ≤ (trS A s).length := by
    cases e : trS A s with
    | nil => rw [e] at t3; cases t3
    | cons a L => exact Nat.succ_pos _
  refine ⟨rnN A (vsO A (trS A s)) (trS A s), rnG A sg (vsO A (trS A s)), ⟨hok, ?_, ?_, ?_, fun k hk1 hk2 => ?_⟩, tks_tk _ (fun v hv => hv), ?_, rnN_len⟩
  · rw [rnN_fl]
    have := (nm_rn (A := A) (vsO A (trS A s)) []).2
    rw [List.append_nil] at this
    exact this
  · rw [rnN_fl]
    have := (nm_rn (A := A) (vsO A (trS A s)) []).1
    rw [List.append_nil] at this
    exact this
  · intro e
    have := rnN_len (A := A) (vs := vsO A (trS A s)) (S := trS A s)
    rw [e] at this
    have h0 : 0 = (trS A s).length := this
    omega
  · rw [rnN_len] at hk2
    obtain ⟨w, w1, w2⟩ := tr_pre (A := A) A.length [s] k hk1 hk2
    have w1 : (trS A s)[k]? = some w := w1
    have w2 : nxS A ((trS A s).take k) = some w := w2
    have ett : (trS A s).take k ++ (trS A s).drop k = trS A s := List.take_append_drop _ _
    have htS : tS A ((trS A s).take k) := tS_pre (Y := (trS A s).drop k) (by rw [ett]; exact t1)
    have evs : vsO A (trS A s) = vsO A ((trS A s).take k) ++ vsO A ((trS A s).drop k) := by
      rw [← vsO_pre, ett]
    have eB : (rnN A (vsO A (trS A s)) (trS A s)).take k = rnN A (vsO A (trS A s)) ((trS A s).take k) := by
      unfold rnN
      rw [List.map_take]
    have hnm := (nm_rn (A := A) (vsO A ((trS A s).take k)) (vsO A ((trS A s).drop k))).1
    rw [← evs] at hnm
    have hvk : vOK ((vsO A ((trS A s).take k)).map (rnv A (vsO A (trS A s)))) := by
      refine vOK_pre (G := (vsO A ((trS A s).drop k)).map (rnv A (vsO A (trS A s)))) ?_
      rw [← List.map_append, ← evs, ← rnN_fl]
      exact ⟨hok.1, fun p hp => ((hok.2 p).mp hp).2⟩
    rw [eB, rnN_fl, List.length_map]
    apply Nat.lt_of_not_le
    intro hle
    -- the mate that is not gone yet
    have hx := w2
    unfold nxS at hx
    rw [Option.map_eq_some_iff] at hx
    obtain ⟨v, h1, h2⟩ := hx
    have hvm := fm_mem _ (List.mem_of_find?_eq_some h1)
    have hv := (vsO_in htS hvm).1
    obtain ⟨h3, h4, -⟩ := nxS_step hd htS w2
    have hm := mtf_mt hd hv
    rw [h2] at hm
    have hw := (rn_mt_lt hm).2
    have hcr : crs A w = crs A v := by
      obtain ⟨-, p, q, e1, e2, e3⟩ := hm
      unfold crs
      rw [vAt_eq e1, vAt_eq e2]
      exact e3.symm
    have hwn : w ∉ vsO A ((trS A s).take k) := fun h9 => by
      rw [(gn_vs htS hw).mpr h9] at h4
      cases h4
    have hvin : v ∈ vsO A (trS A s) := by
      rw [evs]
      exact List.mem_append_left _ hvm
    have hcm : crs A v ∈ (vsO A ((trS A s).take k)).map (crs A) := List.mem_map.mpr ⟨v, hvm, rfl⟩
    have hq : (num A (vsO A (trS A s)) (crs A w) - 1, uns A w) ∈ (vsO A ((trS A s).take k)).map (rnv A (vsO A (trS A s))) := by
      refine vOK_full hvk (by rw [List.length_map]; exact hle) ?_ (uns_lt hF hw)
      show num A (vsO A (trS A s)) (crs A w) - 1 < nm _
      rw [hnm, hcr, evs, num_st hcm]
      have := num_le hcm
      have : 1 ≤ num A (vsO A ((trS A s).take k)) (crs A v) := by unfold num; omega
      omega
    obtain ⟨w', hw1, hw2⟩ := List.mem_map.mp hq
    have hw'in : w' ∈ vsO A (trS A s) := by
      rw [evs]
      exact List.mem_append_left _ hw1
    have hn1 : num A (vsO A (trS A s)) (crs A w') - 1 = num A (vsO A (trS A s)) (crs A v) - 1 := by
      rw [← hcr]
      exact congrArg Prod.fst hw2
    have hc1 := (num_inj hw'in hvin hn1).trans hcr.symm
    have hu2 := congrArg Prod.snd hw2
    have hu1 : uns A w' = uns A w := hu2
    have hw'l := (vsO_in htS hw1).1
    have e6 : vAt A w' = vAt A w := Prod.ext hc1 hu1
    have : w' = w := by
      refine nodup_at hF.1 (vAt_of hw'l) ?_
      rw [e6]
      exact vAt_of hw
    rw [this] at hw1
    exact hwn hw1
  · rw [rnN_fl, List.length_map]
end CP
end
section
/-! 99zzzzzl.ccat -/
/-! parts' rows one behind another: the class's row and the reference's row of one list of components -/
def shv (b : Nat) (p : Nat × Nat) : Nat × Nat := (p.1 + b, p.2)
theorem nm_sh {F : List (Nat × Nat)} {b : Nat} (hF : nm F = b) : ∀ G : List (Nat × Nat), nm (F ++ G.map (shv b)) = b + nm G := by
  refine snoc_ind ?_ (fun G p ih => ?_)
  · rw [List.map_nil, List.append_nil, hF]
    rfl
  · rw [List.map_append, ← List.append_assoc, List.map_cons, List.map_nil, nm_app, nm_app, ih]
    show (if p.1 + b < b + nm G then _ else p.1 + b + 1) = _
    by_cases h : p.1 < nm G
    · rw [if_pos (by omega), if_pos h]
    · rw [if_neg (by omega), if_neg h]
      omega
theorem fo_sh {F : List (Nat × Nat)} {b : Nat} (hF : nm F = b) (hf : fo F) : ∀ G : List (Nat × Nat), fo G → fo (F ++ G.map (shv b)) := by
  refine snoc_ind (fun _ => ?_) (fun G p ih h => ?_)
  · rw [List.map_nil, List.append_nil]
    exact hf
  · rw [List.map_append, ← List.append_assoc, List.map_cons, List.map_nil]
    refine fo_snoc (ih (fo_pre h)) ?_
    rw [nm_sh hF]
    have := fo_at h
    show p.1 + b ≤ _
    omega
/-- components in which each crossing has its two visits, named 0 .. b - 1 -/
def clD (D : rn_L) (b : Nat) : Prop := nm D.flatten = b ∧ D.flatten.length = 2 * b ∧ fo D.flatten
theorem shN_flv {b : Nat} (A : rn_L) : (shN b A).flatten = A.flatten.map (shv b) := shN_fl A
theorem clD_part {D B : rn_L} {b c : Nat} (hD : clD D b) (hB : gp B c) : clD (D ++ shN b B) (b + c) := by
  obtain ⟨h1, h2, h3⟩ := hD
  have hl := okF_len hB.1
  unfold clD
  rw [List.flatten_append, shN_flv]
  refine ⟨?_, ?_, fo_sh h1 h3 _ hB.2.1⟩
  · rw [nm_sh h1, hB.2.2.1]
  · rw [List.length_append, List.length_map]
    omega
theorem ucd_part {sg sgB : Nat → Bool} {D B R : rn_L} {b c : Nat} (hD : clD D b) (hB : gp B c) (hs : ∀ x, x < c → sg (x + b) = sgB x) : ∀ (d k : Nat), k + d = B.length → 0 < d → ucd sg b (D ++ shN b (B.take k)) (shN b (B.drop k) ++ R) = tk sgB (B.drop k) ++ ucd sg (b + c) (D ++ shN b B) R ∧ (bsO (b + c) (D ++ shN b B) R → bsO b (D ++ shN b (B.take k)) (shN b (B.drop k) ++ R)) := by
  intro d
  induction d with
  | zero => exact fun _ _ h => absurd h (Nat.lt_irrefl _)
  | succ d ih =>
    intro k hk _
    have hkl : k < B.length := by omega
    have hl := okF_len hB.1
    have e1 : B.drop k = B[k] :: B.drop (k + 1) := List.drop_eq_getElem_cons hkl
    have e2 : B.take (k + 1) = B.take k ++ [B[k]] := by
      rw [List.take_add_one, List.getElem?_eq_getElem hkl]
      rfl
    have e3 : shN b (B.drop k) = B[k].map (shv b) :: shN b (B.drop (k + 1)) := by
      rw [e1]
      rfl
    have e4 : D ++ shN b (B.take k) ++ [B[k].map (shv b)] = D ++ shN b (B.take (k + 1)) := by
      rw [e2, List.append_assoc]
      congr 1
      unfold shN
      rw [List.map_append]
      rfl
    have hmem : ∀ p, p ∈ B[k] → p ∈ B.flatten := fun p hp => List.mem_flatten.mpr ⟨B[k], List.getElem_mem hkl, hp⟩
    have e5 : (B[k].map (shv b)).map (clc sg b) = B[k].map (tkv sgB) := by
      rw [List.map_map]
      refine List.map_congr_left (fun p hp => ?_)
      have hp1 := (hB.1.2 p).mp (hmem p hp)
      show 4 * (p.1 + b - b + 1) + 2 * p.2 + (if sg (p.1 + b) = true then 1 else 0) = 4 * (p.1 + 1) + 2 * p.2 + if sgB p.1 = true then 1 else 0
      rw [hs p.1 hp1.1, Nat.add_sub_cancel]
    have hnm : nm (D ++ shN b (B.take (k + 1))).flatten = b + nm (B.take (k + 1)).flatten := by
      rw [List.flatten_append, shN_flv, nm_sh hD.1]
    have hln : (D ++ shN b (B.take (k + 1))).flatten.length = 2 * b + (B.take (k + 1)).flatten.length := by
      rw [List.flatten_append, shN_flv, List.length_append, List.length_map, hD.2.1]
    have hbs : ∀ p, p ∈ B[k].map (shv b) → b ≤ p.1 := by
      intro p hp
      obtain ⟨q, hq, e⟩ := List.mem_map.mp hp
      rw [← e]
      show b ≤ q.1 + b
      omega
    rw [e3, e1, tk_cons]
    show (B[k].map (shv b)).map (clc sg b) ++ 0 :: ucd sg (nxb b (D ++ shN b (B.take k) ++ [B[k].map (shv b)])) (D ++ shN b (B.take k) ++ [B[k].map (shv b)]) (shN b (B.drop (k + 1)) ++ R) = _ ∧ (_ → (∀ p, p ∈ B[k].map (shv b) → b ≤ p.1) ∧ bsO (nxb b (D ++ shN b (B.take k) ++ [B[k].map (shv b)])) (D ++ shN b (B.take k) ++ [B[k].map (shv b)]) (shN b (B.drop (k + 1)) ++ R))
    rw [e4, e5]
    by_cases hkd : k + 1 < B.length
    · have hnc := hB.2.2.2.2 (k + 1) (by omega) hkd
      have hx : nxb b (D ++ shN b (B.take (k + 1))) = b := by
        unfold nxb
        rw [hnm, hln, if_neg (by omega)]
      obtain ⟨i1, i2⟩ := ih (k + 1) (by omega) (by omega)
      rw [hx, i1]
      refine ⟨?_, fun h => ⟨hbs, i2 h⟩⟩
      rw [List.append_assoc]
      rfl
    · have etk : B.take (k + 1) = B := List.take_of_length_le (by omega)
      have edr : B.drop (k + 1) = [] := List.drop_of_length_le (by omega)
      have hx : nxb b (D ++ shN b (B.take (k + 1))) = b + c := by
        unfold nxb
        rw [hnm, hln, etk, hB.2.2.1, if_pos (by omega)]
      rw [hx, etk, edr]
      refine ⟨?_, fun h => ⟨hbs, h⟩⟩
      rw [List.append_assoc]
      rfl
/-- parts: components, signs, crossings -/
abbrev prt := rn_L × (Nat → Bool) × Nat
def catL : Nat → List prt → rn_L
  | _, [] => []
  | b, P :: Ps => shN b P.1 ++ catL (b + P.2.2) Ps
def catG : Nat → List prt → Nat → Bool
  | _, [] => fun _ => false
  | b, P :: Ps => fun x => if x < b + P.2.2 then P.2.1 (x - b) else catG (b + P.2.2) Ps x
def totC : List prt → Nat
  | [] => 0
  | P :: Ps => P.2.2 + totC Ps
def totL : List prt → Nat
  | [] => 0
  | P :: Ps => P.1.length + totL Ps
def rowP (Ps : List prt) : List (List Nat) := Ps.map (fun P => tk P.2.1 P.1)
theorem cat_len : ∀ (Ps : List prt) (b : Nat), (catL b Ps).length = totL Ps
  | [], _ => rfl
  | P :: Ps, b => by
    show (shN b P.1 ++ catL (b + P.2.2) Ps).length = P.1.length + totL Ps
    rw [List.length_append, cat_len Ps]
    unfold shN
    rw [List.length_map]
theorem cat_ok : ∀ (Ps : List prt) (b : Nat), (∀ P, P ∈ Ps → gp P.1 P.2.2) → okB (catL b Ps).flatten b (totC Ps)
  | [], b => fun _ => by
    refine ⟨List.nodup_nil, fun p => ⟨fun h => (by cases h), fun h => ?_⟩⟩
    have h3 : p.1 < b + 0 := h.2.1
    omega
  | P :: Ps, b => fun h => by
    have h1 := okF_sh (b := b) (h P List.mem_cons_self).1
    have h2 := cat_ok Ps (b + P.2.2) (fun Q hQ => h Q (List.mem_cons_of_mem _ hQ))
    show okB (shN b P.1 ++ catL (b + P.2.2) Ps).flatten b (P.2.2 + totC Ps)
    rw [List.flatten_append]
    exact okB_app h1 h2
theorem cat_all {sg : Nat → Bool} {R : rn_L} : ∀ (Ps : List prt) (D : rn_L) (b : Nat), (∀ P, P ∈ Ps → gp P.1 P.2.2) → clD D b → (∀ x, b ≤ x → x < b + totC Ps → sg x = catG b Ps x) → ucd sg b D (catL b Ps ++ R) = (rowP Ps).flatten ++ ucd sg (b + totC Ps) (D ++ catL b Ps) R ∧ (bsO (b + totC Ps) (D ++ catL b Ps) R → bsO b D (catL b Ps ++ R)) ∧ clD (D ++ catL b Ps) (b + totC Ps) ∧ tk sg (catL b Ps) = tk (catG b Ps) (catL b Ps)
  | [], D, b => fun _ hD _ => by
    show ucd sg b D ([] ++ R) = [] ++ ucd sg (b + 0) (D ++ []) R ∧ (bsO (b + 0) (D ++ []) R → bsO b D ([] ++ R)) ∧ clD (D ++ []) (b + 0) ∧ _
    rw [List.nil_append, List.nil_append, List.append_nil, Nat.add_zero]
    exact ⟨rfl, fun h => h, hD, rfl⟩
  | P :: Ps, D, b => fun h hD hs => by
    have hP := h P List.mem_cons_self
    have hs1 : ∀ x, x < P.2.2 → sg (x + b) = P.2.1 x := by
      intro x hx
      rw [hs (x + b) (by omega) (by show x + b < b + (P.2.2 + totC Ps); omega)]
      show (if x + b < b + P.2.2 then P.2.1 (x + b - b) else _) = _
      rw [if_pos (by omega), Nat.add_sub_cancel]
    have hs2 : ∀ x, b + P.2.2 ≤ x → x < b + P.2.2 + totC Ps → sg x = catG (b + P.2.2) Ps x := by
      intro x hx hx2
      rw [hs x (by omega) (by show x < b + (P.2.2 + totC Ps); omega)]
      show (if x < b + P.2.2 then P.2.1 (x - b) else _) = _
      rw [if_neg (by omega)]
    have hBl : 0 < P.1.length := List.length_pos_iff.mpr hP.2.2.2.1
    obtain ⟨u1, u2⟩ := ucd_part (R := catL (b + P.2.2) Ps ++ R) hD hP hs1 P.1.length 0 (by omega) hBl
    rw [show P.1.take 0 = [] from rfl, show shN b [] = [] from rfl, List.append_nil, List.drop_zero] at u1 u2
    have hD2 := clD_part hD hP
    obtain ⟨i1, i2, i3, i4⟩ := cat_all (sg := sg) (R := R) Ps (D ++ shN b P.1) (b + P.2.2) (fun Q hQ => h Q (List.mem_cons_of_mem _ hQ)) hD2 hs2
    have e1 : catL b (P :: Ps) ++ R = shN b P.1 ++ (catL (b + P.2.2) Ps ++ R) := by
      show shN b P.1 ++ catL (b + P.2.2) Ps ++ R = _
      rw [List.append_assoc]
    have e2 : D ++ catL b (P :: Ps) = D ++ shN b P.1 ++ catL (b + P.2.2) Ps := by
      show D ++ (shN b P.1 ++ catL (b + P.2.2) Ps) = _
      rw [List.append_assoc]
    have e3 : b + totC (P :: Ps) = b + P.2.2 + totC Ps := by
      show b + (P.2.2 + totC Ps) = _
      omega
    rw [e1, e2, e3]
    refine ⟨?_, fun h9 => u2 (i2 h9), i3, ?_⟩
    · rw [u1, i1, ← List.append_assoc]
      rfl
    · refine tk_congr _ (fun q hq => ?_)
      have := ((cat_ok (P :: Ps) b h).2 q).mp hq
      exact hs q.1 this.1 this.2.1
theorem ucd_cir {sg : Nat → Bool} : ∀ (q : Nat) (D : rn_L) (b : Nat), clD D b → ucd sg b D (List.replicate q []) = List.replicate q 0 ∧ bsO b D (List.replicate q [])
  | 0, _, _ => fun _ => ⟨rfl, trivial⟩
  | q + 1, D, b => fun hD => by
    have hD2 : clD (D ++ [[]]) b := by
      unfold clD
      rw [fl_app, List.append_nil]
      exact hD
    have hx : nxb b (D ++ [[]]) = b := by
      unfold nxb
      rw [hD2.1, ite_self]
    obtain ⟨i1, i2⟩ := ucd_cir (sg := sg) q (D ++ [[]]) b hD2
    rw [List.replicate_succ, List.replicate_succ]
    show [] ++ 0 :: ucd sg (nxb b (D ++ [[]])) (D ++ [[]]) (List.replicate q []) = _ ∧ (∀ p : Nat × Nat, p ∈ [] → b ≤ p.1) ∧ bsO (nxb b (D ++ [[]])) (D ++ [[]]) (List.replicate q [])
    rw [hx, i1]
    exact ⟨rfl, fun p hp => (by cases hp), i2⟩
theorem clD_nil : clD [] 0 := ⟨rfl, rfl, fun G p H e => by cases G <;> cases e⟩
/-- a net's list of components made of its parts' and circles -/
def catA (Ps : List prt) (q : Nat) : rn_L := catL 0 Ps ++ List.replicate q []
theorem catA_ok {Ps : List prt} {q : Nat} (h : ∀ P, P ∈ Ps → gp P.1 P.2.2) (h12 : totC Ps ≤ 12) (h6 : totL Ps + q ≤ 6) : okL (catA Ps q) (totC Ps) ∧ clC (catG 0 Ps) (catA Ps q) = (totC Ps, (rowP Ps).flatten ++ List.replicate q 0) ∧ tk (catG 0 Ps) (catA Ps q) = tk (catG 0 Ps) (catL 0 Ps) ++ List.replicate q 0 ∧ (catA Ps q).length = totL Ps + q := by
  obtain ⟨a1, a2, a3, a4⟩ := cat_all (sg := catG 0 Ps) (R := List.replicate q []) Ps [] 0 h clD_nil (fun _ _ _ => rfl)
  rw [List.nil_append, Nat.zero_add] at a1 a2 a3
  obtain ⟨c1, c2⟩ := ucd_cir (sg := catG 0 Ps) q (catL 0 Ps) (totC Ps) a3
  have hfl : (catA Ps q).flatten = (catL 0 Ps).flatten := by
    unfold catA
    rw [List.flatten_append, fl_nil, List.append_nil]
  have hob := cat_ok Ps 0 h
  rw [c1] at a1
  have hlen : (catA Ps q).length = totL Ps + q := by
    unfold catA
    rw [List.length_append, cat_len, List.length_replicate]
  refine ⟨⟨?_, ?_, a2 c2, h12, by omega⟩, ?_, ?_, hlen⟩
  · rw [hfl]
    refine ⟨hob.1, fun p => ?_⟩
    rw [hob.2 p]
    constructor
    · rintro ⟨h1, h2, h3⟩
      exact ⟨by omega, h3⟩
    · rintro ⟨h1, h2⟩
      exact ⟨Nat.zero_le _, by omega, h2⟩
  · rw [hfl]
    exact a3.2.2
  · unfold clC
    rw [hfl, a3.2.1]
    show (2 * totC Ps / 2, ucd (catG 0 Ps) 0 [] (catL 0 Ps ++ List.replicate q [])) = _
    rw [a1, show 2 * totC Ps / 2 = totC Ps by omega]
  · unfold catA
    rw [tk_app, tk_nil]
/-- what pack writes out of parts -/
theorem pkT_cat {R : List (Nat × List Nat)} : ∀ (ps : List Nat) (Ps : List prt) (b : Nat), ps.map (rAt R) = Ps.map (fun P => (2 * P.2.2, tk P.2.1 P.1)) → (∀ P, P ∈ Ps → gp P.1 P.2.2) → pkT R b ps = tk (catG b Ps) (catL b Ps)
  | [], [], _ => fun _ _ => rfl
  | [], P :: Ps, _ => fun e _ => by cases e
  | p :: ps, [], _ => fun e _ => by cases e
  | p :: ps, P :: Ps, b => fun e h => by
    rw [List.map_cons, List.map_cons] at e
    injection e with e1 e2
    have ih := pkT_cat (R := R) ps Ps (b + P.2.2) e2 (fun Q hQ => h Q (List.mem_cons_of_mem _ hQ))
    have hob := cat_ok Ps (b + P.2.2) (fun Q hQ => h Q (List.mem_cons_of_mem _ hQ))
    have hsh := okF_sh (b := b) (h P List.mem_cons_self).1
    show sft b (rAt R p).2 ++ pkT R (b + (rAt R p).1 / 2) ps = tk (catG b (P :: Ps)) (shN b P.1 ++ catL (b + P.2.2) Ps)
    rw [e1]
    show sft b (tk P.2.1 P.1) ++ pkT R (b + 2 * P.2.2 / 2) ps = _
    rw [show 2 * P.2.2 / 2 = P.2.2 by omega, ih, sft_tk, tk_app]
    congr 1
    · refine tk_congr _ (fun q hq => ?_)
      have := (hsh.2 q).mp hq
      show P.2.1 (q.1 - b) = if q.1 < b + P.2.2 then P.2.1 (q.1 - b) else _
      rw [if_pos this.2.1]
    · refine tk_congr _ (fun q hq => ?_)
      have := (hob.2 q).mp hq
      show catG (b + P.2.2) Ps q.1 = if q.1 < b + P.2.2 then P.2.1 (q.1 - b) else catG (b + P.2.2) Ps q.1
      rw [if_neg (by omega)]
end
section
/-! 99zzzzzm.csort -/
/-! rows in order: the reference's and the class's -/
theorem lxb_lex : ∀ (S T : List Nat), lxb S T = true ↔ lexD S T < 0
  | [], [] => ⟨fun h => (by cases h), fun h => absurd h (by decide)⟩
  | [], b :: B => by
    refine ⟨fun _ => ?_, fun _ => rfl⟩
    show - (((b :: B).length : Nat) : Int) < 0
    rw [List.length_cons]
    omega
  | a :: A, [] => by
    refine ⟨fun h => (by cases h), fun h => ?_⟩
    have h1 : (((a :: A).length : Nat) : Int) < 0 := h
    omega
  | a :: A, b :: B => by
    show (if a = b then lxb A B else decide (a < b)) = true ↔ (if a = b then lexD A B else (a : Int) - b) < 0
    by_cases e : a = b
    · rw [if_pos e, if_pos e]
      exact lxb_lex A B
    · rw [if_neg e, if_neg e, decide_eq_true_iff]
      omega
theorem rlt_cmp {a b : cdT} : rlt a b = true ↔ cmpC a b < 0 := by
  unfold rlt cmpC
  by_cases e : a.1 = b.1
  · rw [if_pos e, decide_eq_false (by omega : ¬ a.1 < b.1), decide_eq_true e, Bool.false_or, Bool.true_and]
    exact lxb_lex _ _
  · rw [if_neg e, decide_eq_false e, Bool.false_and, Bool.or_false, decide_eq_true_iff]
    omega
theorem rlt_f {a b : cdT} (h : rlt a b = false) : cmpC b a ≤ 0 := by
  have h1 : ¬ cmpC a b < 0 := fun h9 => by
    rw [rlt_cmp.mpr h9] at h
    cases h
  have := cmpC_sym (A := b) (B := a)
  omega
/-- the one picked is least -/
theorem pk1_le {R : List cdT} {w : Nat → Bool} : ∀ (k p : Nat), pk1 R w k = some p → ∀ q, q < k → w q = false → cmpC (rAt R p) (rAt R q) ≤ 0
  | 0, p, h => by cases h
  | k + 1, p, h => by
    intro q hq hw
    rw [pk1_s] at h
    by_cases e : w k = true
    · rw [pkA_w e] at h
      by_cases eq : q = k
      · rw [eq, e] at hw
        cases hw
      · exact pk1_le k p h q (by omega) hw
    · have e : w k = false := by
        cases h9 : w k
        · rfl
        · exact absurd h9 e
      cases hl : pk1 R w k with
      | none =>
        rw [hl, pkA_n e] at h
        cases h
        by_cases eq : q = k
        · rw [eq, cmpC_rf]
          exact Int.le_refl _
        · have := pk1_none k hl q (by omega)
          rw [this] at hw
          cases hw
      | some l =>
        rw [hl] at h
        cases hr : rlt (rAt R k) (rAt R l) with
        | true =>
          rw [pkA_t e hr] at h
          cases h
          by_cases eq : q = k
          · rw [eq, cmpC_rf]
            exact Int.le_refl _
          · exact cmpC_tr (Int.le_of_lt (rlt_cmp.mp hr)) (pk1_le k l hl q (by omega) hw)
        | false =>
          rw [pkA_f e hr] at h
          cases h
          by_cases eq : q = k
          · rw [eq]
            exact rlt_f hr
          · exact pk1_le k _ hl q (by omega) hw
theorem sel_spec {R : List cdT} : ∀ (k : Nat) (w : Nat → Bool), rem w (fun _ => 1) R.length = k → (sel R k w).Nodup ∧ (∀ p, p ∈ sel R k w ↔ p < R.length ∧ w p = false) ∧ ((sel R k w).map (rAt R)).Pairwise (fun a b => cmpC a b ≤ 0)
  | 0, w => fun h => by
    refine ⟨List.nodup_nil, fun p => ⟨fun h9 => (by cases h9), fun h9 => ?_⟩, List.Pairwise.nil⟩
    have := rem_zero R.length h p h9.1
    rw [this] at h9
    cases h9.2
  | k + 1, w => fun h => by
    cases hp : pk1 R w R.length with
    | none =>
      have h1 := pk1_none R.length hp
      have : rem w (fun _ => 1) R.length = rem (fun _ => true) (fun _ => 1) R.length := rem_congr _ (fun c hc => h1 c hc)
      have h0 : ∀ n, rem (fun _ => true) (fun _ => 1) n = 0 := by
        intro n
        induction n with
        | zero => rfl
        | succ n ih =>
          show rem (fun _ => true) (fun _ => 1) n + 0 = 0
          rw [ih]
      rw [h0] at this
      omega
    | some p =>
      obtain ⟨p1, p2⟩ := pk1_in R.length hp
      have hst := rem_st (g := w) (g' := fun i => w i || decide (i = p)) (f := fun _ => 1) (c := p) p2 (fun b => rfl) R.length p1
      obtain ⟨i1, i2, i3⟩ := sel_spec (R := R) k (fun i => w i || decide (i = p)) (by omega)
      rw [sel_some hp]
      refine ⟨List.nodup_cons.mpr ⟨fun hm => ?_, i1⟩, fun q => ?_, ?_⟩
      · have := ((i2 p).mp hm).2
        rw [decide_eq_true rfl, Bool.or_true] at this
        cases this
      · rw [List.mem_cons, i2 q]
        constructor
        · rintro (e | ⟨h1, h2⟩)
          · rw [e]
            exact ⟨p1, p2⟩
          · exact ⟨h1, (Bool.or_eq_false_iff.mp h2).1⟩
        · rintro ⟨h1, h2⟩
          by_cases e : q = p
          · exact Or.inl e
          · refine Or.inr ⟨h1, ?_⟩
            rw [h2, decide_eq_false e]
            rfl
      · rw [List.map_cons]
        refine List.Pairwise.cons (fun b hb => ?_) i3
        obtain ⟨q, hq, e⟩ := List.mem_map.mp hb
        have hq2 := (i2 q).mp hq
        rw [← e]
        exact pk1_le R.length p hp q hq2.1 (Bool.or_eq_false_iff.mp hq2.2).1
theorem rAt_range {R : List cdT} : (List.range R.length).map (rAt R) = R := by
  apply List.ext_getElem?
  intro i
  rw [List.getElem?_map]
  by_cases h : i < R.length
  · rw [List.getElem?_range h, rAt_of h]
    rfl
  · rw [List.getElem?_eq_none (by rw [List.length_range]; omega), List.getElem?_eq_none (by omega)]
    rfl
theorem sel_perm {R : List cdT} : ((sel R R.length (fun _ => false)).map (rAt R)).Perm R ∧ ((sel R R.length (fun _ => false)).map (rAt R)).Pairwise (fun a b => cmpC a b ≤ 0) := by
  obtain ⟨h1, h2, h3⟩ := sel_spec (R := R) R.length (fun _ => false) (rem_1 R.length)
  refine ⟨?_, h3⟩
  have hp : (sel R R.length (fun _ => false)).Perm (List.range R.length) := by
    refine (List.perm_ext_iff_of_nodup h1 List.nodup_range).mpr (fun p => ?_)
    rw [h2 p, List.mem_range]
    exact ⟨fun h => h.1, fun h => ⟨h, rfl⟩⟩
  have := hp.map (rAt R)
  rw [rAt_range] at this
  exact this
theorem srt_pw {Cs : List cdT} {os : List Nat} (h : srt Cs os) : (os.map (fun s => Cs.getD s (0, []))).Pairwise (fun a b => cmpC a b ≤ 0) := by
  rw [List.pairwise_iff_getElem]
  intro i j hi hj hij
  rw [List.length_map] at hi hj
  have h1 := h i j hij hj
  unfold atC at h1
  rw [List.getD_eq_getElem?_getD (l := os), List.getD_eq_getElem?_getD (l := os), List.getElem?_eq_getElem hi, List.getElem?_eq_getElem hj] at h1
  rw [List.getElem_map, List.getElem_map]
  exact h1
theorem cmpC_anti {a b : cdT} (h1 : cmpC a b ≤ 0) (h2 : cmpC b a ≤ 0) : a = b := by
  have := cmpC_sym (A := a) (B := b)
  exact cmpC_0 (by omega)
theorem pw_eq {X Y : List cdT} (h1 : X.Pairwise (fun a b => cmpC a b ≤ 0)) (h2 : Y.Pairwise (fun a b => cmpC a b ≤ 0)) (hp : X.Perm Y) : X = Y := hp.eq_of_pairwise (fun _ _ _ _ => cmpC_anti) h1 h2
/-- the least of the reference's rows -/
theorem lsC_le {A : rn_L} {sg : Nat → Bool} : ∀ (vs : List Nat) (T : List Nat), lsC A sg vs = some T → ∀ v, v ∈ vs → lexD T (cdv A sg v) ≤ 0 := by
  refine snocI (fun T h => by cases h) (fun vs v ih T h w hw => ?_)
  rw [lsC_app] at h
  cases hl : lsC A sg vs with
  | none =>
    have e := lsC_none hl
    rw [hl] at h
    have h : some (cdv A sg v) = some T := h
    cases h
    rw [e, List.nil_append] at hw
    rw [List.mem_singleton.mp hw, lexD_rf]
    exact Int.le_refl _
  | some U =>
    rw [hl] at h
    have h0 := ih U hl
    cases hb : lxb (cdv A sg v) U with
    | true =>
      rw [lsA_t hb] at h
      cases h
      rcases List.mem_append.mp hw with h9 | h9
      · exact lexD_tr _ _ _ (Int.le_of_lt ((lxb_lex _ _).mp hb)) (h0 w h9)
      · rw [List.mem_singleton.mp h9, lexD_rf]
        exact Int.le_refl _
    | false =>
      rw [lsA_f hb] at h
      cases h
      rcases List.mem_append.mp hw with h9 | h9
      · exact h0 w h9
      · rw [List.mem_singleton.mp h9]
        have h1 : ¬ lexD (cdv A sg v) T < 0 := fun h8 => by
          rw [(lxb_lex _ _).mpr h8] at hb
          cases hb
        have := lexD_sym T (cdv A sg v)
        omega
theorem lex_cd : ∀ (n : Nat) (X Y : Nat → Nat), lexD ((List.range n).map X) ((List.range n).map Y) < 0 → cd_lt X Y n
  | 0, X, Y => fun h => absurd (show (0 : Int) < 0 from h) (by decide)
  | n + 1, X, Y => fun h => by
    rw [List.range_succ_eq_map, List.map_cons, List.map_cons, List.map_map, List.map_map] at h
    have h : (if X 0 = Y 0 then lexD ((List.range n).map (X ∘ Nat.succ)) ((List.range n).map (Y ∘ Nat.succ)) else (X 0 : Int) - Y 0) < 0 := h
    by_cases e : X 0 = Y 0
    · rw [if_pos e] at h
      obtain ⟨j, hj, h1, h2⟩ := lex_cd n _ _ h
      refine ⟨j + 1, by omega, h1, fun i hi => ?_⟩
      cases i with
      | zero => exact e
      | succ i => exact h2 i (by omega)
    · rw [if_neg e] at h
      exact ⟨0, by omega, by omega, fun i hi => absurd hi (Nat.not_lt_zero _)⟩
theorem tf_T0 {G : Nat → Int32} {N : Nat → Nat} {v : Nat} : (tf_code G N v).T 0 = cd_first G v ∧ 0 < (tf_code G N v).len := by
  have h1 : tf_ext (tf_vis G tf_0 v) (tf_code G N v) := by
    show tf_ext (tf_vis G tf_0 v) (tf_rest G N 23 0 (tf_ring G N v 24 v tf_0))
    refine tf_ext_tr ?_ (tf_ext_tr (tf_sep_ext _) (tf_rest_ext G N 23 0 _))
    rw [tf_ring]
    split
    · exact tf_ext_rf _
    · exact tf_ring_ext G N v 23 _ _
  refine ⟨?_, Nat.lt_of_lt_of_le (Nat.succ_pos _) h1.1⟩
  rw [h1.2 0 (Nat.succ_pos _)]
  show nu tf_0.T 0 (tf_cell G tf_0 v) 0 = _
  rw [nu_same]
  unfold tf_cell tf_name
  rw [if_pos (show tf_0.num (v / 2) = 0 from rfl)]
  show 4 * (nu tf_0.num (v / 2) 1 (v / 2) - 1) + cd_first G v = _
  rw [nu_same]
  omega
theorem lfc_le {G F : Nat → Int32} {p : Int32} {w : Nat} : ∀ n, w < n → F w = p → lfc G F p n ≤ cd_first G w
  | 0, h, _ => absurd h (Nat.not_lt_zero _)
  | n + 1, h, e => by
    show (if F n = p then (if cd_first G n < lfc G F p n then cd_first G n else lfc G F p n) else lfc G F p n) ≤ _
    by_cases e1 : w = n
    · rw [← e1, if_pos e]
      split <;> omega
    · have ih := lfc_le (G := G) n (by omega) e
      split
      · split <;> omega
      · exact ih
/-- a part's code of the class is the least of all its rows -/
theorem epC_le {T : ow_NT} {F : Nat → Int32} {p : Int32} {C : cdT} {n0 : Nat} (hln : ∀ v, v < 2 * T.1 → F v = p → (tf_code T.2.2.2 T.2.2.1.1 v).len = n0) (hex : ∃ v, v < 2 * T.1 ∧ F v = p) (h : epC T F p C) : ∃ v, v < 2 * T.1 ∧ F v = p ∧ C.2 = tfL (tf_code T.2.2.2 T.2.2.1.1 v) ∧ ∀ w, w < 2 * T.1 → F w = p → lexD C.2 (tfL (tf_code T.2.2.2 T.2.2.1.1 w)) ≤ 0 := by
  obtain ⟨w0, hw0, e1, e2⟩ := lfc_ex (G := T.2.2.2) (F := F) (p := p) (2 * T.1) hex
  rcases h.2 with ⟨a1, a2⟩ | ⟨v, ⟨a1, a2, a3⟩, a4⟩
  · exact absurd ⟨e1, e2⟩ (a1 w0 hw0)
  · refine ⟨v, a1, a2.1, a4, fun w hw ew => ?_⟩
    have l1 := hln v a1 a2.1
    have l2 := hln w hw ew
    rw [a4]
    by_cases hs : epS T F p w
    · have h1 := a3 w hw hs
      have h2 : ¬ lexD (tfL (tf_code T.2.2.2 T.2.2.1.1 w)) (tfL (tf_code T.2.2.2 T.2.2.1.1 v)) < 0 := by
        intro h9
        unfold tfL at h9
        rw [l2, l1] at h9
        rw [l1] at h1
        exact h1 (lex_cd n0 _ _ h9)
      have := lexD_sym (tfL (tf_code T.2.2.2 T.2.2.1.1 v)) (tfL (tf_code T.2.2.2 T.2.2.1.1 w))
      omega
    · have hlt : cd_first T.2.2.2 v < cd_first T.2.2.2 w := by
        have h1 := lfc_le (G := T.2.2.2) (F := F) (p := p) (w := w) (2 * T.1) hw ew
        have h2 := a2.2
        have h3 : cd_first T.2.2.2 w ≠ lfc T.2.2.2 F p (2 * T.1) := fun h9 => hs ⟨ew, h9⟩
        omega
      have t1 := tf_T0 (G := T.2.2.2) (N := T.2.2.1.1) (v := v)
      have t2 := tf_T0 (G := T.2.2.2) (N := T.2.2.1.1) (v := w)
      have key : ∀ P : tf_P, 0 < P.len → ∃ L, tfL P = P.T 0 :: L := by
        intro P hP
        obtain ⟨n, hn⟩ : ∃ n, P.len = n + 1 := ⟨P.len - 1, by omega⟩
        unfold tfL
        rw [hn, List.range_succ_eq_map, List.map_cons]
        exact ⟨_, rfl⟩
      obtain ⟨L1, q1⟩ := key _ t1.2
      obtain ⟨L2, q2⟩ := key _ t2.2
      rw [q1, q2, t1.1, t2.1]
      show (if cd_first T.2.2.2 v = cd_first T.2.2.2 w then lexD L1 L2 else (cd_first T.2.2.2 v : Int) - cd_first T.2.2.2 w) ≤ 0
      rw [if_neg (by omega)]
      omega
end
section
/-! 99zzzzzn.cpk -/
/-! the class's code of a net and the reference's row of it -/
theorem tk_ln {sg : Nat → Bool} : ∀ B : rn_L, (tk sg B).length = B.flatten.length + B.length
  | [] => rfl
  | L :: B => by
    rw [tk_cons, List.length_append, List.length_cons, List.length_map, tk_ln B, List.flatten_cons, List.length_append, List.length_cons]
    omega
theorem cntV_f {F : Nat → Int32} {p : Int32} : ∀ n, cntV F p n = ((List.range n).filter (fun k => decide (F k = p))).length
  | 0 => rfl
  | n + 1 => by
    rw [List.range_succ, List.filter_append, List.length_append, ← cntV_f n]
    show (if F n = p then cntV F p n + 1 else cntV F p n) = _
    by_cases e : F n = p
    · rw [if_pos e, List.filter_cons_of_pos (p := fun k => decide (F k = p)) (a := n) (decide_eq_true e)]
      rfl
    · rw [if_neg e, List.filter_cons_of_neg (by rw [decide_eq_false e]; decide)]
      rfl
section CQ2
variable {A : rn_L} {sg : Nat → Bool} {f : Nat → Nat} {T : ow_NT} {m : Nat → Nat} {P : Nat}
theorem mark_it {c : Nat} {S : ow_NP} (hv : vn c S) (hc : c ≤ 12) {k : Nat} (hk : k < 2 * c) : ∀ i, (np_parts c S.1).1 (it S.1 i k) = (np_parts c S.1).1 k
  | 0 => rfl
  | i + 1 => by
    show (np_parts c S.1).1 (S.1 (it S.1 i k)) = _
    rw [((parts_I hv hc).1 _ (it_lt hv hk i)).1]
    exact mark_it hv hc hk i
theorem part_iff (hi : isoN A sg f T) (hv : vn T.1 T.2.2.1) (hk : mk A m P) {v w : Nat} (h1 : v < A.flatten.length) (h2 : w < A.flatten.length) : (np_parts T.1 T.2.2.1.1).1 (lbv A f v) = (np_parts T.1 T.2.2.1.1).1 (lbv A f w) ↔ m (rn_c A v) = m (rn_c A w) := by
  have hc := hi.2.2.1
  have hd := wkF_ok hi.1
  constructor
  · intro e
    have hr := (parts_iff hv hc (lbv_lt hi h1) (lbv_lt hi h2)).mp e
    obtain ⟨u, u1, u2, u3⟩ := hr (fun k => ∃ u, u < A.flatten.length ∧ lbv A f u = k ∧ m (rn_c A u) = m (rn_c A v)) ⟨v, h1, rfl, rfl⟩ (fun j hj ⟨u, u1, u2, u3⟩ => by
      refine ⟨rn_nx A u, rnx_lt u1, ?_, ?_⟩
      · rw [← u2]
        exact (hi.2.2.2.2.2.1 u u1).symm
      · rw [c_nx u1]
        exact u3) (fun j hj ⟨u, u1, u2, u3⟩ => by
      obtain ⟨q1, q2, q3, q4⟩ := lbv_mt hi u1
      refine ⟨mtf A u, q1, by rw [q3, u2], ?_⟩
      rw [← u3]
      exact (hk.2.1 _ _ ⟨u, mtf A u, mtf_mt hd u1, rfl, rfl⟩).symm)
    rw [← u3, lbv_inj hi u1 h2 u2]
  · intro e
    have hcon := hk.2.2.1 _ _ (rn_c_in A v h1).1 (rn_c_in A w h2).1 e
    have same : ∀ a b, a < A.flatten.length → b < A.flatten.length → rn_c A b = rn_c A a → (np_parts T.1 T.2.2.1.1).1 (lbv A f b) = (np_parts T.1 T.2.2.1.1).1 (lbv A f a) := by
      intro a b ha hb he
      obtain ⟨i, _, h9⟩ := iso_same hi ha hb he
      rw [← h9]
      exact mark_it hv hc (lbv_lt hi ha) i
    have hS := hcon (fun c => ∀ u, u < A.flatten.length → rn_c A u = c → (np_parts T.1 T.2.2.1.1).1 (lbv A f u) = (np_parts T.1 T.2.2.1.1).1 (lbv A f v)) (fun u hu he => same v u h1 hu he) (fun x z hx hadj u hu he => by
      obtain ⟨a, b, ab, ea, eb⟩ := hadj
      have hlt := rn_mt_lt ab
      have hb : mtf A a = b := mtf_eq hd ab
      obtain ⟨q1, q2, q3, q4⟩ := lbv_mt hi hlt.1
      rw [hb] at q3
      rw [same b u hlt.2 hu (he.trans eb.symm), q3, ((parts_I hv hc).1 _ (lbv_lt hi hlt.1)).2]
      exact hx a hlt.1 ea)
    exact (hS w h2 rfl).symm
theorem pvl_m {p v n : Nat} : v ∈ pvl A m p n ↔ v < n ∧ m (rn_c A v) = p := by
  unfold pvl
  rw [List.mem_filter, List.mem_range, decide_eq_true_iff]
theorem pvl_cnt (hi : isoN A sg f T) (hv : vn T.1 T.2.2.1) (hk : mk A m P) {v r : Nat} (h1 : v < A.flatten.length) (er : (np_parts T.1 T.2.2.1.1).1 (lbv A f v) = nI r) : cntV (np_parts T.1 T.2.2.1.1).1 (nI r) (2 * T.1) = (pvl A m (m (rn_c A v)) A.flatten.length).length := by
  rw [cntV_f, ← List.length_map (f := lbv A f) (as := pvl A m (m (rn_c A v)) A.flatten.length)]
  refine nodup_eq (nodup_filter List.nodup_range) (nodup_map (nodup_filter List.nodup_range) (fun a b ha hb e => lbv_inj hi (pvl_m.mp ha).1 (pvl_m.mp hb).1 e)) (fun k => ?_)
  rw [List.mem_filter, List.mem_range, decide_eq_true_iff, List.mem_map]
  constructor
  · rintro ⟨hk1, hk2⟩
    obtain ⟨w, hw, ew⟩ := lbv_sur hi hk1
    refine ⟨w, pvl_m.mpr ⟨hw, ?_⟩, ew⟩
    refine ((part_iff hi hv hk hw h1).mp ?_)
    rw [ew, hk2, er]
  · rintro ⟨w, hw, ew⟩
    have hw2 := pvl_m.mp hw
    rw [← ew]
    refine ⟨lbv_lt hi hw2.1, ?_⟩
    rw [(part_iff hi hv hk hw2.1 h1).mpr hw2.2]
    exact er
/-- a part's code is what the reference finds of the part -/
theorem part_key {r : Nat} {C : cdT} (hi : isoN A sg f T) (hA : A.length ≤ 23) (hv : vn T.1 T.2.2.1) (hk : mk A m P) {v : Nat} (h1 : v < A.flatten.length) (er : (np_parts T.1 T.2.2.1.1).1 (lbv A f v) = nI r) (hC : epC T (np_parts T.1 T.2.2.1.1).1 (nI r) C) : lsC A sg (pvl A m (m (rn_c A v)) A.flatten.length) = some C.2 ∧ 2 * C.1 = (pvl A m (m (rn_c A v)) A.flatten.length).length ∧ ∃ B sgB, gp B C.1 ∧ C.2 = tk sgB B := by
  have hc := hi.2.2.1
  have hd := wkF_ok hi.1
  obtain ⟨k, k1, k2, k3, k4⟩ := epC_le (n0 := ptL T.1 T.2.2.1 r) (fun v hv1 ev => tf_len_pt T.2.2.2 hv hc hv1 ev) ⟨_, lbv_lt hi h1, er⟩ hC
  obtain ⟨s, s1, s2⟩ := lbv_sur hi k1
  have es : (np_parts T.1 T.2.2.1.1).1 (lbv A f s) = (np_parts T.1 T.2.2.1.1).1 (lbv A f v) := by rw [s2, k2, er]
  have ems := (part_iff hi hv hk s1 h1).mp es
  have e2 : C.2 = cdv A sg s := by
    rw [k3, ← s2]
    exact iso_code hi hA s1
  have hsin : s ∈ pvl A m (m (rn_c A v)) A.flatten.length := pvl_m.mpr ⟨s1, ems⟩
  have hcnt := pvl_cnt hi hv hk h1 er
  obtain ⟨B, sgB, g1, g2, g3, g4⟩ := cdv_gp (sg := sg) hi.1 s1
  have htl := (trS_len hd hk s1).2
  rw [ems] at htl
  have hBl := okF_len g1.1
  have hC1 : C.1 = (fm A (vsO A (trS A s))).length := by
    rw [hC.1, hcnt, ← htl, ← g3, hBl]
    omega
  refine ⟨?_, ?_, B, sgB, by rw [hC1]; exact g1, by rw [e2, g2]⟩
  · obtain ⟨U, hU⟩ := lsC_ne (A := A) (sg := sg) (List.ne_nil_of_mem hsin)
    obtain ⟨w, w1, w2⟩ := lsC_mem _ hU
    have a1 := lsC_le _ U hU s hsin
    have hw := pvl_m.mp w1
    have a2 : lexD C.2 U ≤ 0 := by
      rw [w2, ← iso_code hi hA hw.1]
      refine k4 _ (lbv_lt hi hw.1) ?_
      rw [(part_iff hi hv hk hw.1 h1).mpr hw.2]
      exact er
    rw [← e2] at a1
    have a3 := lexD_sym U C.2
    have a4 := lexD_0 U C.2 (by omega)
    rw [hU, a4]
  · rw [hC1, ← htl, ← g3, hBl]
theorem rwL_eq : ∀ Q, rwL A sg m Q = ((List.range Q).filter (fun p => !(pvl A m p A.flatten.length).isEmpty)).map (fun p => ((pvl A m p A.flatten.length).length, (lsC A sg (pvl A m p A.flatten.length)).getD []))
  | 0 => rfl
  | Q + 1 => by
    rw [rwL_s, rwL_eq Q, List.range_succ, List.filter_append, List.map_append]
    unfold rwA
    cases hl : lsC A sg (pvl A m Q A.flatten.length) with
    | none =>
      have e := lsC_none hl
      rw [List.filter_cons_of_neg (by rw [e]; decide)]
      show _ = _ ++ []
      rw [List.append_nil]
    | some U =>
      have hne : pvl A m Q A.flatten.length ≠ [] := by
        intro e
        rw [e] at hl
        cases hl
      have hb : (!(pvl A m Q A.flatten.length).isEmpty) = true := by
        cases e : pvl A m Q A.flatten.length with
        | nil => exact absurd e hne
        | cons a L => rfl
      rw [List.filter_cons_of_pos (p := fun p => !(pvl A m p A.flatten.length).isEmpty) (a := Q) hb]
      show _ ++ [((pvl A m Q A.flatten.length).length, U)] = _ ++ [((pvl A m Q A.flatten.length).length, (lsC A sg (pvl A m Q A.flatten.length)).getD [])]
      rw [hl]
      rfl
theorem con_empty {c b : Nat} (hc : neB A c = false) (h : rn_con A c b) : b = c := by
  refine h (fun x => x = c) rfl (fun x y hx hadj => ?_)
  obtain ⟨v, w, h1, h2, h3⟩ := hadj
  have := neB_in (rn_mt_lt h1).1
  rw [h2, hx, hc] at this
  cases this
theorem cir_f : ∀ Q, cir A m Q = ((List.range Q).filter (fun p => (pvl A m p A.flatten.length).isEmpty)).length
  | 0 => rfl
  | Q + 1 => by
    rw [List.range_succ, List.filter_append, List.length_append, ← cir_f Q]
    show cir A m Q + (if pvl A m Q A.flatten.length = [] then 1 else 0) = _
    congr 1
    cases e : pvl A m Q A.flatten.length with
    | nil =>
      rw [if_pos rfl, List.filter_cons_of_pos (by rw [e]; rfl)]
      rfl
    | cons a L =>
      rw [if_neg (List.cons_ne_nil a L), List.filter_cons_of_neg (by rw [e]; exact fun h => (by cases h))]
      rfl
theorem cirs_f : cirs A = ((List.range A.length).filter (fun c => !neB A c)).length := by
  have h1 := ne_cnt A
  have key : ∀ n, cntB (neB A) n + ((List.range n).filter (fun c => !neB A c)).length = n := by
    intro n
    induction n with
    | zero => rfl
    | succ n ih =>
      rw [List.range_succ, List.filter_append, List.length_append]
      show cntB (neB A) n + (if neB A n = true then 1 else 0) + _ = n + 1
      cases e : neB A n with
      | true =>
        rw [if_pos rfl, List.filter_cons_of_neg (by rw [e]; decide)]
        show _ + 1 + (_ + 0) = _
        omega
      | false =>
        rw [if_neg (by decide), List.filter_cons_of_pos (by rw [e]; rfl)]
        show _ + 0 + (_ + 1) = _
        omega
  have h2 := key A.length
  omega
theorem cir_eq (hk : mk A m P) : cir A m P = cirs A := by
  rw [cir_f, cirs_f, ← List.length_map (f := m) (as := (List.range A.length).filter (fun c => !neB A c))]
  have hin : ∀ c, c ∈ (List.range A.length).filter (fun c => !neB A c) ↔ c < A.length ∧ neB A c = false := by
    intro c
    rw [List.mem_filter, List.mem_range, Bool.not_eq_true']
  refine nodup_eq (nodup_filter List.nodup_range) (nodup_map (nodup_filter List.nodup_range) (fun a b ha hb e => ?_)) (fun p => ?_)
  · have ha := (hin a).mp ha
    have hb := (hin b).mp hb
    exact (con_empty ha.2 (hk.2.2.1 a b ha.1 hb.1 e)).symm
  · rw [List.mem_filter, List.mem_range, List.mem_map, List.isEmpty_iff]
    constructor
    · rintro ⟨h1, h2⟩
      obtain ⟨c, c1, c2⟩ := hk.2.2.2 p h1
      refine ⟨c, (hin c).mpr ⟨c1, ?_⟩, c2⟩
      cases e : neB A c with
      | false => rfl
      | true =>
        have h3 := rnb_s c1
        have hpos : 0 < (A[c]).length := by
          unfold neB at e
          rw [List.getElem?_eq_getElem c1] at e
          cases e9 : A[c] with
          | nil =>
            have e : (!(A[c]).isEmpty) = true := e
            rw [e9] at e
            cases e
          | cons a L => exact Nat.succ_pos _
        have hb := rn_b_le A (c + 1)
        have hm : rn_b A c ∈ pvl A m p A.flatten.length := pvl_m.mpr ⟨by omega, by rw [rn_c_of A c (rn_b A c) (Nat.le_refl _) (by omega)]; exact c2⟩
        rw [h2] at hm
        cases hm
    · rintro ⟨c, c1, c2⟩
      have hc := (hin c).mp c1
      refine ⟨by rw [← c2]; exact hk.1 c hc.1, ?_⟩
      cases e : pvl A m p A.flatten.length with
      | nil => rfl
      | cons v L =>
        have hv : v ∈ pvl A m p A.flatten.length := by rw [e]; exact List.mem_cons_self
        have hv := pvl_m.mp hv
        have h9 := con_empty hc.2 (hk.2.2.1 c _ hc.1 (rn_c_in A v hv.1).1 (by rw [hv.2]; exact c2))
        have h8 := neB_in hv.1
        rw [h9, hc.2] at h8
        cases h8
end CQ2
def dbl (C : cdT) : cdT := (2 * C.1, C.2)
theorem dbl_cmp {a b : cdT} (h : cmpC a b ≤ 0) : cmpC (dbl a) (dbl b) ≤ 0 := by
  unfold cmpC dbl at *
  by_cases e : a.1 = b.1
  · rw [if_pos e] at h
    rw [if_pos (by show 2 * a.1 = 2 * b.1; omega)]
    exact h
  · rw [if_neg e] at h
    rw [if_neg (by show ¬ 2 * a.1 = 2 * b.1; omega)]
    show ((2 * a.1 : Nat) : Int) - (2 * b.1 : Nat) ≤ 0
    omega
section CR2
variable {A : rn_L} {sg : Nat → Bool} {f : Nat → Nat} {T : ow_NT} {m : Nat → Nat} {P : Nat} {Cs : List cdT} {os : List Nat}
theorem keys_perm (hi : isoN A sg f T) (hA : A.length ≤ 23) (hT : nv T) (hk : mk A m P) (hZ : cpZ T (np_parts T.1 T.2.2.1.1).2 Cs os) : (Cs.map dbl).Perm (rwL A sg m P) := by
  obtain ⟨z1, z2, z3, z4⟩ := hZ
  have hv := hT.1
  have hc := hT.2.1
  obtain ⟨p1, p2, p3, p4⟩ := parts_I hv hc
  let F := (np_parts T.1 T.2.2.1.1).1
  let n := (np_parts T.1 T.2.2.1.1).2
  have hex : ∀ r, r < n → ∃ v, v < A.flatten.length ∧ F (lbv A f v) = nI r := by
    intro r hr
    obtain ⟨k, k1, k2⟩ := p3 r hr
    obtain ⟨v, v1, v2⟩ := lbv_sur hi k1
    exact ⟨v, v1, by rw [v2]; exact k2⟩
  let vr : Nat → Nat := fun r => if h : ∃ v, v < A.flatten.length ∧ F (lbv A f v) = nI r then Classical.choose h else 0
  have hvr : ∀ r, r < n → vr r < A.flatten.length ∧ F (lbv A f (vr r)) = nI r := by
    intro r hr
    have h := hex r hr
    have e : vr r = Classical.choose h := dif_pos h
    rw [e]
    exact Classical.choose_spec h
  let keyf : Nat → cdT := fun p => ((pvl A m p A.flatten.length).length, (lsC A sg (pvl A m p A.flatten.length)).getD [])
  have e1 : Cs.map dbl = ((List.range n).map (fun r => m (rn_c A (vr r)))).map keyf := by
    rw [List.map_map]
    apply List.ext_getElem?
    intro r
    rw [List.getElem?_map, List.getElem?_map]
    by_cases hr : r < n
    · have hr2 : r < Cs.length := by rw [z1]; exact hr
      rw [List.getElem?_range hr, List.getElem?_eq_getElem hr2]
      have hCr := z2 r _ (List.getElem?_eq_getElem hr2)
      obtain ⟨q1, q2, -⟩ := part_key hi hA hv hk (hvr r hr).1 (hvr r hr).2 hCr.1
      show some (dbl Cs[r]) = some (keyf (m (rn_c A (vr r))))
      congr 1
      refine Prod.ext q2 ?_
      show Cs[r].2 = (lsC A sg (pvl A m (m (rn_c A (vr r))) A.flatten.length)).getD []
      rw [q1]
      rfl
    · rw [List.getElem?_eq_none (by rw [z1]; exact Nat.le_of_not_lt hr), List.getElem?_eq_none (by rw [List.length_range]; exact Nat.le_of_not_lt hr)]
      rfl
  rw [e1, rwL_eq]
  refine List.Perm.map _ ?_
  have hn31 : n < 2 ^ 31 := by
    have : n ≤ 2 * T.1 := p4
    omega
  refine (List.perm_ext_iff_of_nodup (nodup_map List.nodup_range (fun a b ha hb e => ?_)) (nodup_filter List.nodup_range)).mpr (fun p => ?_)
  · have ha := List.mem_range.mp ha
    have hb := List.mem_range.mp hb
    have h1 := (part_iff hi hv hk (hvr a ha).1 (hvr b hb).1).mpr e
    have h2 : nI a = nI b := by
      rw [← (hvr a ha).2, ← (hvr b hb).2]
      exact h1
    exact nI_inj9 (by omega) (by omega) h2
  · rw [List.mem_map, List.mem_filter, List.mem_range, Bool.not_eq_true', List.isEmpty_eq_false_iff]
    constructor
    · rintro ⟨r, r1, r2⟩
      have hr := hvr r (List.mem_range.mp r1)
      refine ⟨by rw [← r2]; exact hk.1 _ (rn_c_in A _ hr.1).1, ?_⟩
      exact List.ne_nil_of_mem (pvl_m.mpr ⟨hr.1, r2⟩)
    · rintro ⟨q1, q2⟩
      obtain ⟨v, hv9⟩ := List.exists_mem_of_ne_nil _ q2
      have hv1 := pvl_m.mp hv9
      obtain ⟨r, r1, r2⟩ := p2 _ (lbv_lt hi hv1.1)
      refine ⟨r, List.mem_range.mpr r1, ?_⟩
      rw [← hv1.2]
      refine (part_iff hi hv hk (hvr r r1).1 hv1.1).mp ?_
      exact (hvr r r1).2.trans r2.symm
theorem prt_list {Ks : List cdT} (h : ∀ C, C ∈ Ks → ∃ B sgB, gp B C.1 ∧ C.2 = tk sgB B) : ∃ Ps : List prt, Ks = Ps.map (fun P => (P.2.2, tk P.2.1 P.1)) ∧ ∀ P, P ∈ Ps → gp P.1 P.2.2 := by
  induction Ks with
  | nil => exact ⟨[], rfl, fun P hP => by cases hP⟩
  | cons C Ks ih =>
    obtain ⟨Ps, h1, h2⟩ := ih (fun D hD => h D (List.mem_cons_of_mem _ hD))
    obtain ⟨B, sgB, h3, h4⟩ := h C List.mem_cons_self
    refine ⟨(B, sgB, C.1) :: Ps, ?_, fun P hP => ?_⟩
    · rw [List.map_cons, ← h1]
      show C :: Ks = (C.1, tk sgB B) :: Ks
      rw [← h4]
    · rcases List.mem_cons.mp hP with e | e
      · rw [e]
        exact h3
      · exact h2 P e
theorem prt_sums : ∀ Ps : List prt, (∀ P, P ∈ Ps → gp P.1 P.2.2) → ((Ps.map (fun P => (2 * P.2.2, tk P.2.1 P.1))).map (fun r => r.1)).sum = 2 * totC Ps ∧ ((Ps.map (fun P => (2 * P.2.2, tk P.2.1 P.1))).map (fun r => r.2.length)).sum = 2 * totC Ps + totL Ps
  | [], _ => ⟨rfl, rfl⟩
  | P :: Ps, h => by
    obtain ⟨i1, i2⟩ := prt_sums Ps (fun Q hQ => h Q (List.mem_cons_of_mem _ hQ))
    have hl := okF_len (h P List.mem_cons_self).1
    rw [List.map_cons, List.map_cons, List.map_cons, List.sum_cons, List.sum_cons, i1, i2]
    show 2 * P.2.2 + 2 * totC Ps = 2 * (P.2.2 + totC Ps) ∧ (tk P.2.1 P.1).length + (2 * totC Ps + totL Ps) = 2 * (P.2.2 + totC Ps) + (P.1.length + totL Ps)
    rw [tk_ln]
    omega
/-- THE CODES: what the class writes of a net and what the reference writes of its components are rows of one list -/
theorem enc_pk (hi : isoN A sg f T) (hA : A.length ≤ 6) (hT : nv T) (hk : mk A m P) (hZ : cpZ T (np_parts T.1 T.2.2.1.1).2 Cs os) : ∃ A' sg', pkR A sg m P = tk sg' A' ∧ okL A' T.1 ∧ enC T Cs os = clC sg' A' ∧ A'.length = A.length := by
  have hperm := keys_perm hi (by omega) hT hk hZ
  obtain ⟨z1, z2, z3, z4⟩ := id hZ
  have hv := hT.1
  have hc := hT.2.1
  have hd := wkF_ok hi.1
  have ecs : (List.range Cs.length).map (fun s => Cs.getD s (0, [])) = Cs := by
    apply List.ext_getElem?
    intro i
    rw [List.getElem?_map]
    by_cases h : i < Cs.length
    · rw [List.getElem?_range h, List.getElem?_eq_getElem h]
      show some (Cs.getD i (0, [])) = _
      rw [List.getD_eq_getElem?_getD, List.getElem?_eq_getElem h]
      rfl
    · rw [List.getElem?_eq_none (by rw [List.length_range]; omega), List.getElem?_eq_none (by omega)]
      rfl
  have hos : (os.map (fun s => Cs.getD s (0, []))).Perm Cs := by
    have h1 := z3.map (fun s => Cs.getD s (0, []))
    rw [← z1, ecs] at h1
    exact h1
  have hKs : ∀ C, C ∈ os.map (fun s => Cs.getD s (0, [])) → ∃ B sgB, gp B C.1 ∧ C.2 = tk sgB B := by
    intro C hC
    have hC2 := hos.mem_iff.mp hC
    obtain ⟨r, hr⟩ := List.getElem?_of_mem hC2
    have hr2 := (List.getElem?_eq_some_iff.mp hr).1
    obtain ⟨p1, p2, p3, p4⟩ := parts_I hv hc
    obtain ⟨k, k1, k2⟩ := p3 r (by rw [← z1]; exact hr2)
    obtain ⟨v, v1, v2⟩ := lbv_sur hi k1
    obtain ⟨-, -, q3⟩ := part_key hi (by omega) hv hk v1 (by rw [v2]; exact k2) (z2 r C hr).1
    exact q3
  obtain ⟨Ps, hP1, hP2⟩ := prt_list hKs
  have hdP : (os.map (fun s => Cs.getD s (0, []))).map dbl = Ps.map (fun P => (2 * P.2.2, tk P.2.1 P.1)) := by
    rw [hP1, List.map_map]
    rfl
  have hsel := sel_perm (R := rwL A sg m P)
  have heq : (sel (rwL A sg m P) (rwL A sg m P).length (fun _ => false)).map (rAt (rwL A sg m P)) = Ps.map (fun P => (2 * P.2.2, tk P.2.1 P.1)) := by
    rw [← hdP]
    refine pw_eq hsel.2 ?_ (hsel.1.trans (((hos.map dbl).trans hperm).symm))
    rw [List.pairwise_map]
    exact (srt_pw z4).imp dbl_cmp
  have hpk := pkT_cat _ Ps 0 heq hP2
  obtain ⟨s1, s2⟩ := prt_sums Ps hP2
  obtain ⟨r1, r2⟩ := rwL_tot (sg := sg) hd hk
  have hpr : (Ps.map (fun P => (2 * P.2.2, tk P.2.1 P.1))).Perm (rwL A sg m P) := by
    rw [← heq]
    exact hsel.1
  have t1 := (hpr.map (fun r => r.1)).sum_nat
  have t2 := (hpr.map (fun r => r.2.length)).sum_nat
  rw [s1, r2] at t1
  rw [s2] at t2
  have hcir := cir_eq hk
  have hlen := hi.2.1
  have hcs : cirs A = T.2.1 := hi.2.2.2.2.2.2.2
  have htc : totC Ps = T.1 := by omega
  have htl : totL Ps + T.2.1 = A.length := by omega
  obtain ⟨c1, c2, c3, c4⟩ := catA_ok (q := T.2.1) hP2 (by omega) (by omega)
  refine ⟨catA Ps T.2.1, catG 0 Ps, ?_, by rw [← htc]; exact c1, ?_, by rw [c4]; exact htl⟩
  · unfold pkR
    rw [hpk, c3, hcir, hcs]
  · rw [c2, htc]
    unfold enC
    congr 2
    have : cdR Cs os = rowP Ps := by
      have h1 := congrArg (List.map (fun C : cdT => C.2)) hP1
      rw [List.map_map, List.map_map] at h1
      exact h1
    rw [this]
end CR2
end
section
/-! 99zzzzzo.cring -/
/-! every valid net shows a list of components -/
theorem cntB_fl {q : Nat → Bool} : ∀ n, cntB q n = ((List.range n).filter q).length
  | 0 => rfl
  | n + 1 => by
    rw [List.range_succ, List.filter_append, List.length_append, ← cntB_fl n]
    show cntB q n + (if q n = true then 1 else 0) = _
    congr 1
    cases e : q n with
    | true =>
      rw [if_pos rfl, List.filter_cons_of_pos e]
      rfl
    | false =>
      rw [if_neg (by decide), List.filter_cons_of_neg (by rw [e]; decide)]
      rfl
/-- rl names the rings' lengths -/
def rlK (c : Nat) (S : ow_NP) (rl : Nat → Nat) : Prop := ∀ w, w < 2 * c → rl w ≤ 2 * c ∧ ring_len S.1 w (rl w)
theorem rlK_ex {c : Nat} {S : ow_NP} (h : vn c S) : ∃ rl, rlK c S rl := by
  have hx : ∀ w, ∃ m, w < 2 * c → m ≤ 2 * c ∧ ring_len S.1 w m := by
    intro w
    by_cases hw : w < 2 * c
    · obtain ⟨m, hm⟩ := ring_ex h hw
      exact ⟨m, fun _ => hm⟩
    · exact ⟨0, fun h9 => absurd h9 hw⟩
  exact ⟨fun w => Classical.choose (hx w), fun w hw => Classical.choose_spec (hx w) hw⟩
def kp (k : Nat) : Nat × Nat := (k / 2, k % 2)
theorem kp_lb (k : Nat) : lb (kp k) = k := by
  unfold lb kp
  show 2 * (k / 2) + k % 2 = k
  omega
def rgV (rl : Nat → Nat) (S : ow_NP) (w : Nat) : List (Nat × Nat) := (List.range (rl w)).map (fun i => kp (it S.1 i w))
def netL (rl : Nat → Nat) (T : ow_NT) : rn_L := ((List.range (2 * T.1)).filter (fun k => lst T.2.2.1.1 k 24)).map (rgV rl T.2.2.1) ++ List.replicate T.2.1 []
section CO
variable {c : Nat} {S : ow_NP} {rl : Nat → Nat}
theorem lst_same (hr : rlK c S rl) (hc : c ≤ 12) {w w' i j : Nat} (hw : w < 2 * c) (hw' : w' < 2 * c) (l1 : lst S.1 w 24 = true) (l2 : lst S.1 w' 24 = true) (hj : j < rl w') (e : it S.1 i w = it S.1 j w') : w ≤ w' := by
  have r1 := hr _ hw
  have r2 := hr _ hw'
  have e1 : w' = it S.1 (rl w' - j + i) w := by
    rw [it_add, e, ← it_add, show rl w' - j + j = rl w' by omega]
    exact r2.2.2.1.symm
  obtain ⟨k, k1, k2⟩ := it_mod r1.2 (rl w' - j + i)
  rw [e1, k2]
  exact (lst_t 24).mp l1 k (by omega)
theorem rgV_nd (h : vn c S) (hr : rlK c S rl) {w : Nat} (hw : w < 2 * c) : (rgV rl S w).Nodup := by
  have r1 := hr _ hw
  refine nodup_map List.nodup_range (fun a b ha hb e => ?_)
  have ha := List.mem_range.mp ha
  have hb := List.mem_range.mp hb
  have e2 : it S.1 a w = it S.1 b w := by
    have := congrArg lb e
    rw [kp_lb, kp_lb] at this
    exact this
  rcases Nat.lt_trichotomy a b with q | q | q
  · exact absurd e2 (ring_dist h hw r1.2 q hb)
  · exact q
  · exact absurd e2.symm (ring_dist h hw r1.2 q ha)
theorem netL_ok {T : ow_NT} (hr : rlK T.1 T.2.2.1 rl) (h : vn T.1 T.2.2.1) (hc : T.1 ≤ 12) : okF (netL rl T).flatten T.1 := by
  unfold netL
  rw [List.flatten_append, fl_nil, List.append_nil]
  have hlm : ∀ w, w ∈ (List.range (2 * T.1)).filter (fun k => lst T.2.2.1.1 k 24) ↔ w < 2 * T.1 ∧ lst T.2.2.1.1 w 24 = true := by
    intro w
    rw [List.mem_filter, List.mem_range]
  refine ⟨?_, fun p => ?_⟩
  · show List.Pairwise _ _
    rw [List.pairwise_flatten]
    refine ⟨fun L hL => ?_, ?_⟩
    · obtain ⟨w, hw, e⟩ := List.mem_map.mp hL
      rw [← e]
      exact rgV_nd h hr ((hlm w).mp hw).1
    · rw [List.pairwise_map]
      have hnd : ((List.range (2 * T.1)).filter (fun k => lst T.2.2.1.1 k 24)).Nodup := nodup_filter List.nodup_range
      refine List.Pairwise.imp_of_mem ?_ hnd
      intro a b ha hb hne x hx y hy exy
      have ha := (hlm a).mp ha
      have hb := (hlm b).mp hb
      obtain ⟨i, hi, ei⟩ := List.mem_map.mp hx
      obtain ⟨j, hj, ej⟩ := List.mem_map.mp hy
      have hi := List.mem_range.mp hi
      have hj := List.mem_range.mp hj
      have e : it T.2.2.1.1 i a = it T.2.2.1.1 j b := by
        have := congrArg lb (ei.trans (exy.trans ej.symm))
        rw [kp_lb, kp_lb] at this
        exact this
      have h1 := lst_same hr hc ha.1 hb.1 ha.2 hb.2 hj e
      have h2 := lst_same hr hc hb.1 ha.1 hb.2 ha.2 hi e.symm
      exact hne (Nat.le_antisymm h1 h2)
  · constructor
    · intro hp
      obtain ⟨L, hL, hpL⟩ := List.mem_flatten.mp hp
      obtain ⟨w, hw, e⟩ := List.mem_map.mp hL
      rw [← e] at hpL
      obtain ⟨i, hi, ei⟩ := List.mem_map.mp hpL
      have := it_lt h ((hlm w).mp hw).1 i
      rw [← ei]
      unfold kp
      show it T.2.2.1.1 i w / 2 < T.1 ∧ it T.2.2.1.1 i w % 2 < 2
      omega
    · intro ⟨hp1, hp2⟩
      have hk : lb p < 2 * T.1 := by unfold lb; omega
      obtain ⟨m, hm1, hm2⟩ := ring_ex h hk
      obtain ⟨w, w1, ⟨j, j1, j2⟩, w3⟩ := ring_least h hc hk hm2 hm1
      have hl : lst T.2.2.1.1 w 24 = true := (w3 w ⟨j, j1, j2⟩).mpr rfl
      have r1 := hr _ w1
      have e1 : it T.2.2.1.1 (m - j) w = lb p := by
        rw [j2, ← it_add, show m - j + j = m by omega]
        exact hm2.2.1
      obtain ⟨i, i1, i2⟩ := it_mod r1.2 (m - j)
      refine List.mem_flatten.mpr ⟨rgV rl T.2.2.1 w, List.mem_map.mpr ⟨w, (hlm w).mpr ⟨w1, hl⟩, rfl⟩, List.mem_map.mpr ⟨i, List.mem_range.mpr i1, ?_⟩⟩
      rw [← i2, e1]
      unfold kp lb
      exact Prod.ext (by show (2 * p.1 + p.2) / 2 = p.1; omega) (by show (2 * p.1 + p.2) % 2 = p.2; omega)
/-- a component goes round -/
def cyc (N : Nat → Nat) (L : List (Nat × Nat)) : Prop := ∀ i p q, L[i]? = some p → (if i + 1 < L.length then L[i + 1]? else L[0]?) = some q → N (lb p) = lb q
theorem cyc_all {N : Nat → Nat} : ∀ A : rn_L, (∀ L, L ∈ A → cyc N L) → ∀ v, v < A.flatten.length → N (lb (vAt A v)) = lb (vAt A (rn_nx A v)) := by
  refine snocI (fun _ v hv => absurd hv (Nat.not_lt_zero _)) (fun A L ih h v hv => ?_)
  rw [fl_app, List.length_append] at hv
  by_cases e : v < A.flatten.length
  · rw [vAt_ap e, rnx_app e, vAt_ap (rnx_lt e)]
    exact ih (fun K hK => h K (List.mem_append_left _ hK)) v e
  · obtain ⟨i, rfl⟩ : ∃ i, v = A.flatten.length + i := ⟨v - A.flatten.length, by omega⟩
    have hi : i < L.length := by omega
    have hL := h L (List.mem_append_right _ (List.mem_singleton.mpr rfl))
    rw [rnx_new hi, vAt_nw (List.getElem?_eq_getElem hi)]
    by_cases h1 : i + 1 < L.length
    · rw [if_pos h1, vAt_nw (List.getElem?_eq_getElem h1)]
      refine hL i _ _ (List.getElem?_eq_getElem hi) ?_
      rw [if_pos h1]
      exact List.getElem?_eq_getElem h1
    · rw [if_neg h1, show A.flatten.length = A.flatten.length + 0 from rfl, vAt_nw (List.getElem?_eq_getElem (show 0 < L.length by omega))]
      refine hL i _ _ (List.getElem?_eq_getElem hi) ?_
      rw [if_neg h1]
      exact List.getElem?_eq_getElem (by omega)
theorem rgV_cyc (hr : rlK c S rl) {w : Nat} (hw : w < 2 * c) : cyc S.1 (rgV rl S w) := by
  have r1 := hr _ hw
  have hl : (rgV rl S w).length = rl w := by
    unfold rgV
    rw [List.length_map, List.length_range]
  have hat : ∀ i, i < rl w → (rgV rl S w)[i]? = some (kp (it S.1 i w)) := by
    intro i hi
    unfold rgV
    rw [List.getElem?_map, List.getElem?_range hi]
    rfl
  intro i p q ep eq
  have hi := (List.getElem?_eq_some_iff.mp ep).1
  rw [hl] at hi eq
  rw [hat i hi] at ep
  cases ep
  rw [kp_lb]
  by_cases h1 : i + 1 < rl w
  · rw [if_pos h1, hat _ h1] at eq
    cases eq
    rw [kp_lb]
    rfl
  · rw [if_neg h1, hat 0 (by omega)] at eq
    cases eq
    rw [kp_lb]
    have := r1.2.2.1
    rw [show rl w = i + 1 by omega] at this
    exact this
end CO
theorem netL_iso {T : ow_NT} {rl : Nat → Nat} (hr : rlK T.1 T.2.2.1 rl) (h : vn T.1 T.2.2.1) (hc : T.1 ≤ 12) : isoN (netL rl T) (fun x => decide (T.2.2.2 x < 0)) (fun x => x) T ∧ (netL rl T).length = np_rg T.1 T.2.2.1 + T.2.1 := by
  have hok := netL_ok hr h hc
  have hlen := okF_len hok
  have hlm : ∀ w, w ∈ (List.range (2 * T.1)).filter (fun k => lst T.2.2.1.1 k 24) → w < 2 * T.1 := by
    intro w hw
    rw [List.mem_filter, List.mem_range] at hw
    exact hw.1
  have hn : (netL rl T).length = np_rg T.1 T.2.2.1 + T.2.1 := by
    unfold netL np_rg
    rw [List.length_append, List.length_map, List.length_replicate, cntB_fl]
  have hcy : ∀ L, L ∈ netL rl T → cyc T.2.2.1.1 L := by
    intro L hL
    rcases List.mem_append.mp hL with h9 | h9
    · obtain ⟨w, hw, e⟩ := List.mem_map.mp h9
      rw [← e]
      exact rgV_cyc hr (hlm w hw)
    · rw [(List.mem_replicate.mp h9).2]
      intro i p q ep
      rw [List.getElem?_nil] at ep
      cases ep
  have hin : ∀ v, v < (netL rl T).flatten.length → crs (netL rl T) v < T.1 ∧ uns (netL rl T) v < 2 := fun v hv => (hok.2 _).mp (vAt_mem hv)
  refine ⟨⟨okF_wk (by omega) hok, hlen, hc, fun v hv => (hin v hv).1, fun v w _ _ e => e, fun v hv => cyc_all (netL rl T) hcy v hv, fun v hv => ?_, ?_⟩, hn⟩
  · rw [decide_eq_true_iff]
  · unfold cirs netL
    rw [List.countP_append]
    have e1 : (((List.range (2 * T.1)).filter (fun k => lst T.2.2.1.1 k 24)).map (rgV rl T.2.2.1)).countP (fun B => B.isEmpty) = 0 := by
      rw [List.countP_eq_zero]
      intro L hL
      obtain ⟨w, hw, e⟩ := List.mem_map.mp hL
      have r1 := (hr _ (hlm w hw)).2.1
      rw [← e]
      intro he
      have := List.isEmpty_iff.mp he
      have hl : (rgV rl T.2.2.1 w).length = rl w := by
        unfold rgV
        rw [List.length_map, List.length_range]
      rw [this] at hl
      have hl' : 0 = rl w := hl
      omega
    rw [e1, List.countP_replicate]
    show 0 + T.2.1 = T.2.1
    omega
/-- marks of classes -/
theorem marks_ex {R : Nat → Nat → Prop} (hr : ∀ a, R a a) (hs : ∀ a b, R a b → R b a) (ht : ∀ a b c, R a b → R b c → R a c) : ∀ n, ∃ (m : Nat → Nat) (P : Nat), (∀ c, c < n → m c < P) ∧ (∀ a b, a < n → b < n → (m a = m b ↔ R a b)) ∧ ∀ p, p < P → ∃ c, c < n ∧ m c = p
  | 0 => ⟨fun _ => 0, 0, fun c hc => absurd hc (Nat.not_lt_zero _), fun a b ha => absurd ha (Nat.not_lt_zero _), fun p hp => absurd hp (Nat.not_lt_zero _)⟩
  | n + 1 => by
    obtain ⟨m, P, h1, h2, h3⟩ := marks_ex hr hs ht n
    by_cases hex : ∃ b, b < n ∧ R b n
    · obtain ⟨b, b1, b2⟩ := hex
      refine ⟨fun c => if c = n then m b else m c, P, fun c hc => ?_, fun a d ha hd => ?_, fun p hp => ?_⟩
      · show (if c = n then m b else m c) < P
        split
        · exact h1 b b1
        · exact h1 c (by omega)
      · show (if a = n then m b else m a) = (if d = n then m b else m d) ↔ R a d
        by_cases ea : a = n
        · by_cases ed : d = n
          · rw [if_pos ea, if_pos ed, ea, ed]
            exact ⟨fun _ => hr n, fun _ => rfl⟩
          · rw [if_pos ea, if_neg ed, ea, h2 b d b1 (by omega)]
            exact ⟨fun h => ht _ _ _ (hs _ _ b2) h, fun h => ht _ _ _ b2 h⟩
        · by_cases ed : d = n
          · rw [if_neg ea, if_pos ed, ed, h2 a b (by omega) b1]
            exact ⟨fun h => ht _ _ _ h b2, fun h => ht _ _ _ h (hs _ _ b2)⟩
          · rw [if_neg ea, if_neg ed]
            exact h2 a d (by omega) (by omega)
      · obtain ⟨c, c1, c2⟩ := h3 p hp
        refine ⟨c, by omega, ?_⟩
        show (if c = n then m b else m c) = p
        rw [if_neg (by omega)]
        exact c2
    · refine ⟨fun c => if c = n then P else m c, P + 1, fun c hc => ?_, fun a d ha hd => ?_, fun p hp => ?_⟩
      · show (if c = n then P else m c) < P + 1
        split
        · omega
        · have := h1 c (by omega)
          omega
      · show (if a = n then P else m a) = (if d = n then P else m d) ↔ R a d
        by_cases ea : a = n
        · by_cases ed : d = n
          · rw [if_pos ea, if_pos ed, ea, ed]
            exact ⟨fun _ => hr n, fun _ => rfl⟩
          · rw [if_pos ea, if_neg ed, ea]
            have := h1 d (by omega)
            exact ⟨fun h => absurd h (by omega), fun h => absurd ⟨d, by omega, hs _ _ h⟩ hex⟩
        · by_cases ed : d = n
          · rw [if_neg ea, if_pos ed, ed]
            have := h1 a (by omega)
            exact ⟨fun h => absurd h (by omega), fun h => absurd ⟨a, by omega, h⟩ hex⟩
          · rw [if_neg ea, if_neg ed]
            exact h2 a d (by omega) (by omega)
      · by_cases ep : p = P
        · refine ⟨n, by omega, ?_⟩
          show (if n = n then P else m n) = p
          rw [if_pos rfl, ep]
        · obtain ⟨c, c1, c2⟩ := h3 p (by omega)
          refine ⟨c, by omega, ?_⟩
          show (if c = n then P else m c) = p
          rw [if_neg (by omega)]
          exact c2
theorem mk_ex (A : rn_L) : ∃ m P, mk A m P := by
  obtain ⟨m, P, h1, h2, h3⟩ := marks_ex (R := rn_con A) (fun _ => rn_con.rf) (fun _ _ h => h.symm) (fun _ _ _ h k => h.tr k) A.length
  refine ⟨m, P, h1, fun a b hab => ?_, fun a b ha hb e => (h2 a b ha hb).mp e, h3⟩
  obtain ⟨v, w, e1, e2, e3⟩ := id hab
  have hl := rn_mt_lt e1
  refine (h2 a b ?_ ?_).mpr (rn_con.st rn_con.rf hab)
  · rw [← e2]
    exact (rn_c_in A v hl.1).1
  · rw [← e3]
    exact (rn_c_in A w hl.2).1
/-- the code of a valid net is written from a list of components -/
theorem enc_ok {T : ow_NT} {Cs : List cdT} {os : List Nat} (hT : nv T) (hZ : cpZ T (np_parts T.1 T.2.2.1.1).2 Cs os) : ∃ A' sg', okL A' T.1 ∧ enC T Cs os = clC sg' A' ∧ (T.1 ≠ 0 ∨ T.2.1 ≠ 0 → A' ≠ []) := by
  obtain ⟨rl, hr⟩ := rlK_ex hT.1
  obtain ⟨hi, h6⟩ := netL_iso hr hT.1 hT.2.1
  have h66 := hT.2.2.2
  obtain ⟨m, P, hk⟩ := mk_ex (netL rl T)
  obtain ⟨A', sg', -, h2, h3, h4⟩ := enc_pk hi (by omega) hT hk hZ
  refine ⟨A', sg', h2, h3, fun hne e => ?_⟩
  rw [e] at h4
  have h0 : netL rl T = [] := List.length_eq_zero_iff.mp h4.symm
  have h1 := hi.2.1
  have h5 : cirs (netL rl T) = T.2.1 := hi.2.2.2.2.2.2.2
  rw [h0] at h1 h5
  have h1' : 0 = 2 * T.1 := h1
  have h5' : 0 = T.2.1 := h5
  omega
end
section
/-! 99zzzzzp.chg -/
/-! the class: diagrams loaded, kept; what a call leaves -/
section W0
variable {O : Type} {Q : O → Prop}
theorem w_tc0 {f : Nat → Option (Nat × ow_MS)} {R : Nat × ow_MS → Prop} {E1 : Nat → ow_MS → Nat → Nat → Option O} {E2 : ow_MS → Nat → Nat → Option O} (hc : Te f R) (H0 : ∀ z1, R (0, z1) → Tt (E2 z1) Q) (H1 : ∀ a z1, a ≠ 0 → R (a, z1) → Tt (E1 a z1) Q) : Tt (fun K k => tc0 (f K) (fun a z => E1 a z K k) (fun z => E2 z K k)) Q := by
  obtain ⟨⟨a, z1⟩, ⟨b, hb⟩, hr⟩ := hc
  by_cases e : a = 0
  · subst e
    obtain ⟨r2, ⟨b2, hb2⟩, hq⟩ := H0 z1 hr
    refine ⟨r2, ⟨b + b2, fun K k hK hk => ?_⟩, hq⟩
    show tc0 (f K) _ _ = _
    rw [hb K (by omega)]
    show (if (0 : Nat) = 0 then E2 z1 K k else E1 0 z1 K k) = _
    rw [if_pos rfl]
    exact hb2 K k (by omega) (by omega)
  · obtain ⟨r2, ⟨b2, hb2⟩, hq⟩ := H1 a z1 e hr
    refine ⟨r2, ⟨b + b2, fun K k hK hk => ?_⟩, hq⟩
    show tc0 (f K) _ _ = _
    rw [hb K (by omega)]
    show (if a = 0 then E2 z1 K k else E1 a z1 K k) = _
    rw [if_neg e]
    exact hb2 K k (by omega) (by omega)
theorem w_tc1 {α : Type} {f : Nat → Option (Nat × α × ow_MS)} {R : Nat × α × ow_MS → Prop} {E1 : Nat → ow_MS → Nat → Nat → Option O} {E2 : α → ow_MS → Nat → Nat → Option O} (hc : Te f R) (H0 : ∀ v z1, R (0, v, z1) → Tt (E2 v z1) Q) (H1 : ∀ a v z1, a ≠ 0 → R (a, v, z1) → Tt (E1 a z1) Q) : Tt (fun K k => tc1 (f K) (fun a z => E1 a z K k) (fun v z => E2 v z K k)) Q := by
  obtain ⟨⟨a, v, z1⟩, ⟨b, hb⟩, hr⟩ := hc
  by_cases e : a = 0
  · subst e
    obtain ⟨r2, ⟨b2, hb2⟩, hq⟩ := H0 v z1 hr
    refine ⟨r2, ⟨b + b2, fun K k hK hk => ?_⟩, hq⟩
    show tc1 (f K) _ _ = _
    rw [hb K (by omega)]
    show (if (0 : Nat) = 0 then E2 v z1 K k else E1 0 z1 K k) = _
    rw [if_pos rfl]
    exact hb2 K k (by omega) (by omega)
  · obtain ⟨r2, ⟨b2, hb2⟩, hq⟩ := H1 a v z1 e hr
    refine ⟨r2, ⟨b + b2, fun K k hK hk => ?_⟩, hq⟩
    show tc1 (f K) _ _ = _
    rw [hb K (by omega)]
    show (if a = 0 then E2 v z1 K k else E1 a z1 K k) = _
    rw [if_neg e]
    exact hb2 K k (by omega) (by omega)
end W0
/-- codes that are written from components -/
def okC (C : cdT) : Prop := ∃ A sg c, okL A c ∧ C = clC sg A
theorem okC_ok {C : cdT} (h : okC C) : cOK C := by
  obtain ⟨A, sg, c, h1, h2⟩ := h
  rw [h2]
  exact (okL_c h1).2
/-- the places of the diagrams -/
def dgC (y : ow_MS) : Prop := byR y 1001 ∧ ∀ d, d < 40 → (∃ c, c ≤ 12 ∧ slC y 1000 d (c, [])) ∨ ∃ C, slC y 1000 d C ∧ okC C ∧ 0 < C.2.length
theorem dgC_E {y : ow_MS} (h : dgC y) : dgE y := by
  intro d hd
  rcases h.2 d hd with ⟨c, h1, h2⟩ | ⟨C, h1, h2, h3⟩
  · exact Or.inl h2.2.1
  · exact Or.inr ⟨C, h1, okC_ok h2, h3⟩
/-- the nets' numbers -/
def nsC (y : ow_MS) : Prop := ∀ h, nH h → ∃ T, cAt y h T ∧ ow_b24 T.2.2.1
/-- the coders' rows -/
def kdC (y : ow_MS) : Prop := ∀ k, kH k → byR y (k + 1001) ∧ byR y (k + 2001) ∧ byR y (k + 3001)
def gN (y : ow_MS) : Prop := dgC y ∧ nsC y ∧ kdC y
theorem byR_fr {P : Nat → Prop} {y y1 : ow_MS} {g : Nat} (hf : fr P y y1) (hP : ¬ P g) (h : byR y g) : byR y1 g := by
  intro i
  rw [(hf g hP).2.1]
  exact h i
theorem dgC_fr {P : Nat → Prop} {y y1 : ow_MS} (hf : fr P y y1) (hP : ∀ g, 1001 ≤ g → g ≤ 1003 → ¬ P g) (h : dgC y) : dgC y1 := by
  have hs : ∀ d C, slC y 1000 d C → slC y1 1000 d C := fun d C hc => slC_fr hf (fun q hq => hP q (by unfold cW at hq; omega) (by unfold cW at hq; omega)) hc
  refine ⟨byR_fr hf (hP 1001 (by omega) (by omega)) h.1, fun d hd => ?_⟩
  rcases h.2 d hd with ⟨c, h1, h2⟩ | ⟨C, h1, h2, h3⟩
  · exact Or.inl ⟨c, h1, hs d _ h2⟩
  · exact Or.inr ⟨C, hs d C h1, h2, h3⟩
theorem kdC_fr {P : Nat → Prop} {y y1 : ow_MS} (hf : fr P y y1) (hP : ∀ g, P g → g ≠ 8001 ∧ g ≠ 9001 ∧ g ≠ 10001 ∧ g ≠ 21001 ∧ g ≠ 22001 ∧ g ≠ 23001) (h : kdC y) : kdC y1 := by
  intro k hk
  have hb := h k hk
  rcases hk with rfl | rfl
  · exact ⟨byR_fr hf (fun h9 => (hP _ h9).1 rfl) hb.1, byR_fr hf (fun h9 => (hP _ h9).2.1 rfl) hb.2.1, byR_fr hf (fun h9 => (hP _ h9).2.2.1 rfl) hb.2.2⟩
  · exact ⟨byR_fr hf (fun h9 => (hP _ h9).2.2.2.1 rfl) hb.1, byR_fr hf (fun h9 => (hP _ h9).2.2.2.2.1 rfl) hb.2.1, byR_fr hf (fun h9 => (hP _ h9).2.2.2.2.2 rfl) hb.2.2⟩
theorem nH_far {h h' : Nat} (hh : nH h) (hh' : nH h') (hne : h ≠ h') : h + 1000 ≤ h' ∨ h' + 1000 ≤ h := by
  have key : ∀ a, a ∈ nHL → a % 1000 = 0 := by decide
  have h1 := key h hh
  have h2 := key h' hh'
  omega
theorem nsC_put {P : Nat → Prop} {y y1 : ow_MS} {h : Nat} (hh : nH h) (hf : fr P y y1) (hP : ∀ h', nH h' → h' ≠ h → ∀ g, cP h' g → ¬ P g) (hT : ∃ T, cAt y1 h T ∧ ow_b24 T.2.2.1) (hn : nsC y) : nsC y1 := by
  intro h' hh'
  by_cases e : h' = h
  · rw [e]
    exact hT
  · obtain ⟨T, h1, h2⟩ := hn h' hh'
    exact ⟨T, cAt_fr hf (hP h' hh' e) h1, h2⟩
theorem nsC_fr {P : Nat → Prop} {y y1 : ow_MS} (hf : fr P y y1) (hP : ∀ h', nH h' → ∀ g, cP h' g → ¬ P g) (hn : nsC y) : nsC y1 := by
  intro h' hh'
  obtain ⟨T, h1, h2⟩ := hn h' hh'
  exact ⟨T, cAt_fr hf (hP h' hh') h1, h2⟩
/-- what a call on diagrams may change -/
def uP (g : Nat) : Prop := 1001 ≤ g ∧ g ≤ 1005 ∨ 4001 ≤ g ∧ g ≤ 5011 ∨ 7004 ≤ g ∧ g ≤ 10005
theorem nH4 : nH 4000 := by unfold nH nHL; exact List.mem_cons_self
theorem nH5 : nH 5000 := by unfold nH nHL; exact List.mem_cons_of_mem _ List.mem_cons_self
def isO (y : ow_MS) (x : Int32) : Prop := ∃ d A sg c, d < 40 ∧ x = nI d ∧ slC y 1000 d (clC sg A) ∧ okL A c ∧ A ≠ []
theorem isD_O {y : ow_MS} {x : Int32} (h : dgC y) (hD : isD y x) : isO y x := by
  obtain ⟨d, C, h1, h2, h3, h4, h5⟩ := hD
  have hl30 := h4.2.1
  rcases h.2 d h1 with ⟨c, q1, q2⟩ | ⟨C', q1, ⟨A, sg, c, q2, q3⟩, q4⟩
  · have : nI C.2.length = nI 0 := h3.2.1.symm.trans q2.2.1
    have := nI_inj9 (by omega) (by omega) this
    omega
  · rw [q3] at q1 q4
    refine ⟨d, A, sg, c, h1, h2, q1, q2, fun e => ?_⟩
    rw [e] at q4
    exact Nat.lt_irrefl _ q4
/-- a net within the region that may change -/
theorem gN_net {h : Nat} {P : Nat → Prop} {y y1 : ow_MS} (hh : nH h) (hf : fr P y y1) (hP : ∀ g, P g → h + 1 ≤ g ∧ g ≤ h + 11) (hT : ∃ T, cAt y1 h T ∧ ow_b24 T.2.2.1) (hN : gN y) : gN y1 := by
  have h4 : 4000 ≤ h ∧ h ≤ 44000 := nH_all (P := fun h => 4000 ≤ h ∧ h ≤ 44000) (by decide) hh
  have key2 : ∀ a, a ∈ nHL → a ≠ 8000 ∧ a ≠ 9000 ∧ a ≠ 10000 ∧ a ≠ 21000 ∧ a ≠ 22000 ∧ a ≠ 23000 := by decide
  have hm := key2 h hh
  have key : ∀ a, a ∈ nHL → a % 1000 = 0 := by decide
  have h0 := key h hh
  refine ⟨dgC_fr hf (fun g g1 g2 h9 => by have := hP g h9; omega) hN.1, nsC_put hh hf (fun h' hh' hne g hg h9 => ?_) hT hN.2.1, kdC_fr hf (fun g h9 => ?_) hN.2.2⟩
  · have := hP g h9
    have := nH_far hh' hh hne
    unfold cP at hg
    omega
  · have := hP g h9
    omega
section CU
variable {vl : Nat → Nat} {y : ow_MS} {x : Int32}
theorem tc_need (hN : dgC y) : Te (fun K => ce_X11_needDiagram vl K 0 x y) (fun r => (r.1 = 0 ∧ isO y x ∨ r.1 = 1 ∧ ∀ d, d < 40 → x = nI d → y.2.1 1002 d = 0) ∧ r.2 = y) := by
  refine w_monoE (tc_needDiagram (dgC_E hN)) ?_
  rintro r ⟨h1 | h1, h2⟩
  · exact ⟨Or.inl ⟨h1.1, isD_O hN h1.2⟩, h2⟩
  · exact ⟨Or.inr h1, h2⟩
theorem tc_ld {h d c : Nat} {A : rn_L} {sg : Nat → Bool} (hh : nH h) (hN : gN y) (hd : d < 40) (hs : slC y 1000 d (clC sg A)) (hA : okL A c) : Te (fun K => ce_X7_load vl K h 1000 (nI d) y) (fun y1 => gN y1 ∧ fr (cL h) y y1 ∧ ∃ T1, shA y1 h A sg T1 ∧ T1.1 = c ∧ T1.2.1 = cirs A) := by
  obtain ⟨T, hT, hb⟩ := hN.2.1 h hh
  have h4 : 4000 ≤ h := nH_all (P := fun h => 4000 ≤ h) (by decide) hh
  refine w_monoE (tc_load2 hh ch_1000 (by omega) hd hA hs hT hb) ?_
  rintro y1 ⟨⟨T1, h1, h2, h3⟩, h5⟩
  refine ⟨gN_net hh h5 (fun g hg => by unfold cL at hg; omega) ⟨T1, h1.1, h1.2.2.1.2.2.1⟩ hN, h5, T1, h1, h2, h3⟩
theorem e_X11_keep {vl : Nat → Nat} {r0 : Nat} {x1 : Int32} {z : ow_MS} {Q : (Int32 × ow_MS) → Prop} (H : Tt (fun K _ => cm_X11_keep_0 vl K x1 r0 z) Q) : Te (fun K => ce_X11_keep vl K r0 x1 z) Q := w_te0 H
/-- a net is given a code and the code a place -/
theorem tc_keep {d : Nat} {T : ow_NT} (hN : gN y) (hd : d < 40) (hy : cAt y 4000 T) (hT : nv T) : Te (fun K => ce_X11_keep vl K 0 (nI d) y) (fun r => r.1 = nI d ∧ gN r.2 ∧ fr uP y r.2 ∧ (∃ Cs os, cpZ T (np_parts T.1 T.2.2.1.1).2 Cs os ∧ slC r.2 1000 d (enC T Cs os)) ∧ (∀ e C, e ≠ d → cOK C → slC y 1000 e C → slC r.2 1000 e C) ∧ cAt r.2 4000 T) := by
  have hk : kH 7000 := Or.inl rfl
  have hb := hN.2.2 7000 hk
  refine e_X11_keep ?_; unfold cm_X11_keep_0
  refine w_cs0 (tc_encode hk nH4 hy hT hb.1 hb.2.1 hb.2.2) ?_
  rintro y1 ⟨⟨Cs, os, z1, z2, z3⟩, b1, b2, b3, hy1, f1⟩
  obtain ⟨A', sg', q1, q2, -⟩ := enc_ok hT z1
  have hfu : fr uP y y1 := fr_mono (fun g hg => by
    unfold enP cpP epP cV cQ at hg
    unfold uP
    omega) f1
  have hN1 : gN y1 := by
    refine ⟨dgC_fr f1 (fun g g1 g2 h9 => by unfold enP cpP epP cV cQ at h9; omega) hN.1, nsC_put nH4 f1 (fun h' hh' hne g hg h9 => ?_) ⟨T, hy1, hT.2.2.1⟩ hN.2.1, fun k hk2 => ?_⟩
    · have h8 := nH_far hh' nH4 hne
      have h7 := kH_dj hk hh'
      unfold cP at hg
      unfold enP cpP epP cV cQ at h9
      omega
    · rcases hk2 with rfl | rfl
      · exact ⟨b1, b2, b3⟩
      · have hb9 := hN.2.2 20000 (Or.inr rfl)
        exact ⟨byR_fr f1 (by unfold enP cpP epP cV cQ; omega) hb9.1, byR_fr f1 (by unfold enP cpP epP cV cQ; omega) hb9.2.1, byR_fr f1 (by unfold enP cpP epP cV cQ; omega) hb9.2.2⟩
  refine w_cs0 (tc_write ch_1000 (kH_out hk) (by omega) hd Nat.one_pos z2 z3 b1) ?_
  rintro y2 ⟨w1, w2, w3, w4⟩
  have hfu2 : fr uP y1 y2 := fr_mono (fun g hg => by
    unfold cW at hg
    unfold uP
    omega) w4
  have hsl : ∀ e C, e ≠ d → cOK C → slC y 1000 e C → slC y2 1000 e C := by
    intro e C hne oC hC
    refine w2 e C hne oC (slC_fr f1 (fun q hq h9 => ?_) hC)
    unfold cW at hq
    unfold enP cpP epP cV cQ at h9
    omega
  refine w_some ⟨rfl, ⟨⟨w3 hN1.1.1, fun e he => ?_⟩, nsC_fr w4 (fun h' hh' g hg h9 => ?_) hN1.2.1, kdC_fr w4 (fun g h9 => ?_) hN1.2.2⟩, fr_tr hfu hfu2, ⟨Cs, os, z1, w1⟩, hsl, cAt_fr w4 (fun q hq h9 => by unfold cP at hq; unfold cW at h9; omega) hy1⟩
  · by_cases ed : e = d
    · rw [ed]
      by_cases el : (enC T Cs os).2 = []
      · refine Or.inl ⟨T.1, hT.2.1, ?_⟩
        have : enC T Cs os = (T.1, []) := Prod.ext rfl el
        rw [← this]
        exact w1
      · exact Or.inr ⟨_, w1, ⟨A', sg', T.1, q1, q2⟩, List.length_pos_iff.mpr el⟩
    · rcases hN.1.2 e he with ⟨c, c1, c2⟩ | ⟨C, c1, c2, c3⟩
      · exact Or.inl ⟨c, c1, hsl e _ ed ⟨c1, Nat.zero_le _, fun a ha => by cases ha⟩ c2⟩
      · exact Or.inr ⟨C, hsl e C ed (okC_ok c2) c1, c2, c3⟩
  · have h4 : 4000 ≤ h' := nH_all (P := fun h => 4000 ≤ h) (by decide) hh'
    unfold cP at hg
    unfold cW at h9
    omega
  · unfold cW at h9
    omega
/-- a flip keeps a net valid -/
theorem nv_flip {T : ow_NT} {x : Nat} {G : Nat → Int32} (hT : nv T) (hx : x < T.1) : nv (T.1, T.2.1, np_swap T.2.2.1 (2 * x) (2 * x + 1), G) := nv_swap hT (show 2 * x < 2 * T.1 by omega) (show 2 * x + 1 < 2 * T.1 by omega)
theorem e_X11_mirror {vl : Nat → Nat} {r0 : Nat} {x1 : Int32} {z : ow_MS} {Q : (Nat × Int32 × ow_MS) → Prop} (H : Tt (fun K k => c_X11_mirror vl K k 0 x1 0 0 r0 z) Q) : Te (fun K => ce_X11_mirror vl K r0 x1 z) Q := w_te H
theorem u_X11_mirror_0 {vl : Nat → Nat} {x1 : Int32} {x2 : Int32} {x3 : Int32} {r0 : Nat} {z : ow_MS} {Q : (Nat × Int32 × ow_MS) → Prop} (H : Tt (fun K k => cm_X11_mirror_0 vl K (c_X11_mirror vl K k) x1 x2 x3 r0 z) Q) : Tt (fun K k => c_X11_mirror vl K k 0 x1 x2 x3 r0 z) Q := w_un (fun _ _ => rfl) H
theorem u_X11_mirror_1 {vl : Nat → Nat} {x1 : Int32} {x2 : Int32} {x3 : Int32} {r0 : Nat} {z : ow_MS} {Q : (Nat × Int32 × ow_MS) → Prop} (H : Tt (fun K k => cm_X11_mirror_1 vl K (c_X11_mirror vl K k) x1 x2 x3 r0 z) Q) : Tt (fun K k => c_X11_mirror vl K k 1 x1 x2 x3 r0 z) Q := w_un (fun _ _ => rfl) H
theorem e_X11_needCrossing {vl : Nat → Nat} {r0 : Nat} {x1 : Int32} {z : ow_MS} {Q : (Nat × ow_MS) → Prop} (H : Tt (fun K _ => cm_X11_needCrossing_0 vl K x1 r0 z) Q) : Te (fun K => ce_X11_needCrossing vl K r0 x1 z) Q := w_te0 H
theorem tc_needCrossing {c : Nat} (h8 : y.1 4008 = nI c) (hc : c ≤ 12) : Te (fun K => ce_X11_needCrossing vl K 0 x y) (fun r => ((r.1 = 0 ∧ ∃ i, i < c ∧ x = nI i) ∨ r.1 = 1 ∧ ∀ i, i < c → x ≠ nI i) ∧ r.2 = y) := by
  refine e_X11_needCrossing ?_; unfold cm_X11_needCrossing_0
  refine w_if (fun e => w_some ⟨Or.inr ⟨rfl, fun i hi ex => ?_⟩, rfl⟩) (fun e => ?_)
  · rw [ex] at e
    exact nI_pos (by omega) e
  · obtain ⟨i, i31, rfl⟩ := nI_of e
    refine w_rdF h8 (w_lt i31 (by omega) (fun h9 => w_some ⟨Or.inl ⟨rfl, i, h9, rfl⟩, rfl⟩) (fun h9 => w_some ⟨Or.inr ⟨rfl, fun j hj ex => ?_⟩, rfl⟩))
    have := (nI_eq i31 (by omega)).mp ex
    omega
theorem e_X11_needComponent {vl : Nat → Nat} {r0 : Nat} {x1 : Int32} {z : ow_MS} {Q : (Nat × ow_MS) → Prop} (H : Tt (fun K _ => cm_X11_needComponent_0 vl K x1 r0 z) Q) : Te (fun K => ce_X11_needComponent vl K r0 x1 z) Q := w_te0 H
theorem tc_needComponent {c : Nat} (h8 : y.1 4010 = nI c) (hc : c ≤ 12) : Te (fun K => ce_X11_needComponent vl K 0 x y) (fun r => ((r.1 = 0 ∧ ∃ i, i < c ∧ x = nI i) ∨ r.1 = 1 ∧ ∀ i, i < c → x ≠ nI i) ∧ r.2 = y) := by
  refine e_X11_needComponent ?_; unfold cm_X11_needComponent_0
  refine w_if (fun e => w_some ⟨Or.inr ⟨rfl, fun i hi ex => ?_⟩, rfl⟩) (fun e => ?_)
  · rw [ex] at e
    exact nI_pos (by omega) e
  · obtain ⟨i, i31, rfl⟩ := nI_of e
    refine w_rdF h8 (w_lt i31 (by omega) (fun h9 => w_some ⟨Or.inl ⟨rfl, i, h9, rfl⟩, rfl⟩) (fun h9 => w_some ⟨Or.inr ⟨rfl, fun j hj ex => ?_⟩, rfl⟩))
    have := (nI_eq i31 (by omega)).mp ex
    omega
theorem e_X11_change {vl : Nat → Nat} {r0 : Nat} {x1 : Int32} {x2 : Int32} {z : ow_MS} {Q : (Nat × Int32 × ow_MS) → Prop} (H : Tt (fun K _ => cm_X11_change_0 vl K x1 x2 r0 z) Q) : Te (fun K => ce_X11_change vl K r0 x1 x2 z) Q := w_te0 H
end CU
end
section
/-! 99zzzzzq.cfig -/
/-! the class: figure, visit, linking, smooth -/
section CV
variable {vl : Nat → Nat} {y : ow_MS} {x x' : Int32}
def noD (y : ow_MS) (x : Int32) : Prop := ∀ d, d < 40 → x = nI d → y.2.1 1002 d = 0
theorem five {x : Int32} (h0 : ¬ x < 0) (h5 : x ≤ 5) : x = 0 ∨ x = 1 ∨ x = 2 ∨ x = 3 ∨ x = 4 ∨ x = 5 := by
  obtain ⟨n, n31, rfl⟩ := nI_of h0
  have hn : n ≤ 5 := (nI_leI n31 (by omega : 5 < 2 ^ 31)).mp h5
  have : n = 0 ∨ n = 1 ∨ n = 2 ∨ n = 3 ∨ n = 4 ∨ n = 5 := by omega
  rcases this with rfl | rfl | rfl | rfl | rfl | rfl
  · exact Or.inl rfl
  · exact Or.inr (Or.inl rfl)
  · exact Or.inr (Or.inr (Or.inl rfl))
  · exact Or.inr (Or.inr (Or.inr (Or.inl rfl)))
  · exact Or.inr (Or.inr (Or.inr (Or.inr (Or.inl rfl))))
  · exact Or.inr (Or.inr (Or.inr (Or.inr (Or.inr rfl))))
theorem e_X11_figure {vl : Nat → Nat} {r0 : Nat} {x1 : Int32} {x2 : Int32} {z : ow_MS} {Q : (Nat × Int32 × ow_MS) → Prop} (H : Tt (fun K _ => cm_X11_figure_0 vl K x1 x2 r0 z) Q) : Te (fun K => ce_X11_figure vl K r0 x1 x2 z) Q := w_te0 H
theorem e_X11_visit {vl : Nat → Nat} {r0 : Nat} {x1 : Int32} {x2 : Int32} {x3 : Int32} {z : ow_MS} {Q : (Nat × Int32 × ow_MS) → Prop} (H : Tt (fun K _ => cm_X11_visit_0 vl K x1 x2 x3 r0 z) Q) : Te (fun K => ce_X11_visit vl K r0 x1 x2 x3 z) Q := w_te0 H
end CV
end
section
/-! 99zzzzzr.clnk -/
/-! the class: linking, smooth -/
/-- the signs of the crossings between components a and b -/
def lkC (F G : Nat → Int32) (a b : Int32) : Nat → Int32
  | 0 => 0
  | x + 1 => if (F (2 * x) = a ∧ F (2 * x + 1) = b) ∨ (F (2 * x) = b ∧ F (2 * x + 1) = a) then lkC F G a b x + G x else lkC F G a b x
section CX2
variable {vl : Nat → Nat} {y : ow_MS} {x a b : Int32}
theorem e_X11_linking {vl : Nat → Nat} {r0 : Nat} {x1 : Int32} {x2 : Int32} {x3 : Int32} {z : ow_MS} {Q : (Nat × Int32 × ow_MS) → Prop} (H : Tt (fun K k => c_X11_linking vl K k 0 x1 x2 x3 0 0 0 0 r0 z) Q) : Te (fun K => ce_X11_linking vl K r0 x1 x2 x3 z) Q := w_te H
theorem u_X11_linking_0 {vl : Nat → Nat} {x1 : Int32} {x2 : Int32} {x3 : Int32} {x4 : Int32} {x5 : Int32} {x6 : Int32} {x7 : Int32} {r0 : Nat} {z : ow_MS} {Q : (Nat × Int32 × ow_MS) → Prop} (H : Tt (fun K k => cm_X11_linking_0 vl K (c_X11_linking vl K k) x1 x2 x3 x4 x5 x6 x7 r0 z) Q) : Tt (fun K k => c_X11_linking vl K k 0 x1 x2 x3 x4 x5 x6 x7 r0 z) Q := w_un (fun _ _ => rfl) H
theorem u_X11_linking_1 {vl : Nat → Nat} {x1 : Int32} {x2 : Int32} {x3 : Int32} {x4 : Int32} {x5 : Int32} {x6 : Int32} {x7 : Int32} {r0 : Nat} {z : ow_MS} {Q : (Nat × Int32 × ow_MS) → Prop} (H : Tt (fun K k => cm_X11_linking_1 vl K (c_X11_linking vl K k) x1 x2 x3 x4 x5 x6 x7 r0 z) Q) : Tt (fun K k => c_X11_linking vl K k 1 x1 x2 x3 x4 x5 x6 x7 r0 z) Q := w_un (fun _ _ => rfl) H
theorem u_X11_linking_4 {vl : Nat → Nat} {x1 : Int32} {x2 : Int32} {x3 : Int32} {x4 : Int32} {x5 : Int32} {x6 : Int32} {x7 : Int32} {r0 : Nat} {z : ow_MS} {Q : (Nat × Int32 × ow_MS) → Prop} (H : Tt (fun K k => cm_X11_linking_4 vl K (c_X11_linking vl K k) x1 x2 x3 x4 x5 x6 x7 r0 z) Q) : Tt (fun K k => c_X11_linking vl K k 4 x1 x2 x3 x4 x5 x6 x7 r0 z) Q := w_un (fun _ _ => rfl) H
theorem u_X11_linking_3 {vl : Nat → Nat} {x1 : Int32} {x2 : Int32} {x3 : Int32} {x4 : Int32} {x5 : Int32} {x6 : Int32} {x7 : Int32} {r0 : Nat} {z : ow_MS} {Q : (Nat × Int32 × ow_MS) → Prop} (H : Tt (fun K k => cm_X11_linking_3 vl K (c_X11_linking vl K k) x1 x2 x3 x4 x5 x6 x7 r0 z) Q) : Tt (fun K k => c_X11_linking vl K k 3 x1 x2 x3 x4 x5 x6 x7 r0 z) Q := w_un (fun _ _ => rfl) H
theorem u_X11_linking_2 {vl : Nat → Nat} {x1 : Int32} {x2 : Int32} {x3 : Int32} {x4 : Int32} {x5 : Int32} {x6 : Int32} {x7 : Int32} {r0 : Nat} {z : ow_MS} {Q : (Nat × Int32 × ow_MS) → Prop} (H : Tt (fun K k => cm_X11_linking_2 vl K (c_X11_linking vl K k) x1 x2 x3 x4 x5 x6 x7 r0 z) Q) : Tt (fun K k => c_X11_linking vl K k 2 x1 x2 x3 x4 x5 x6 x7 r0 z) Q := w_un (fun _ _ => rfl) H
end CX2
/-- rings marked: as many as least visits -/
theorem mr_in_mk {c : Nat} {S : ow_NP} (h : vn c S) {f m : Nat} (hf : f < 2 * c) (hm : ring_len S.1 f m) {x : Int32} (hx : x ≠ -1) : ∀ (d i : Nat) (F : Nat → Int32), i ≤ m → m ≤ i + d → (∀ k, (F k = -1 ↔ False) ∨ True) → (∀ j, i ≤ j → j < m → F (it S.1 j f) = -1) → (∀ j, j < i → F (it S.1 j f) ≠ -1) → (∀ k, mr_in S.1 x d F (it S.1 i f) k = -1 ↔ F k = -1 ∧ ∀ j, i ≤ j → j < m → k ≠ it S.1 j f) := by
  intro d
  induction d with
  | zero =>
    intro i F hi hd _ h1 h2 k
    show F k = -1 ↔ _
    exact ⟨fun e => ⟨e, fun j hj1 hj2 => absurd hj2 (by omega)⟩, fun e => e.1⟩
  | succ d ih =>
    intro i F hi hd _ h1 h2 k
    show (if F (it S.1 i f) = -1 then mr_in S.1 x d (su F (it S.1 i f) x) (S.1 (it S.1 i f)) else F) k = -1 ↔ _
    by_cases him : i = m
    · have e0 : it S.1 i f = f := by rw [him]; exact hm.2.1
      have hne : ¬ F (it S.1 i f) = -1 := by
        rw [e0]
        exact h2 0 (by have := hm.1; omega)
      rw [if_neg hne]
      exact ⟨fun e => ⟨e, fun j hj1 hj2 => absurd hj2 (by omega)⟩, fun e => e.1⟩
    · have hil : i < m := by omega
      rw [if_pos (h1 i (Nat.le_refl _) hil)]
      have key := ih (i + 1) (su F (it S.1 i f) x) (by omega) (by omega) (fun _ => Or.inr trivial) (fun j hj1 hj2 => by
        show (if it S.1 j f = it S.1 i f then x else F (it S.1 j f)) = -1
        rw [if_neg (fun e => ring_dist h hf hm (i := i) (j := j) (by omega) hj2 e.symm)]
        exact h1 j (by omega) hj2) (fun j hj => by
        show (if it S.1 j f = it S.1 i f then x else F (it S.1 j f)) ≠ -1
        by_cases e : it S.1 j f = it S.1 i f
        · rw [if_pos e]
          exact hx
        · rw [if_neg e]
          refine h2 j ?_
          rcases Nat.lt_or_ge j i with q | q
          · exact q
          · exact absurd (by rw [show j = i by omega]) e) k
      refine key.trans ?_
      show (if k = it S.1 i f then x else F k) = -1 ∧ _ ↔ _
      constructor
      · rintro ⟨q1, q2⟩
        have hk : k ≠ it S.1 i f := fun e => by
          rw [if_pos e] at q1
          exact hx q1
        rw [if_neg hk] at q1
        refine ⟨q1, fun j hj1 hj2 => ?_⟩
        by_cases e : j = i
        · rw [e]
          exact hk
        · exact q2 j (by omega) hj2
      · rintro ⟨q1, q2⟩
        rw [if_neg (q2 i (Nat.le_refl _) hil)]
        exact ⟨q1, fun j hj1 hj2 => q2 j (by omega) hj2⟩
theorem rings_cnt {c : Nat} {S : ow_NP} (h : vn c S) (hc : c ≤ 12) : (np_rings c S.1).2 = np_rg c S := by
  have key : ∀ n, n ≤ 2 * c → (mr_out S.1 (2 * c) (fun _ => -1) n).2 = cntB (fun k => lst S.1 k 24) n ∧ (mr_out S.1 (2 * c) (fun _ => -1) n).2 ≤ n ∧ ∀ k, k < 2 * c → ((mr_out S.1 (2 * c) (fun _ => -1) n).1 k = -1 ↔ ∀ i, n ≤ it S.1 i k) := by
    intro n
    induction n with
    | zero => exact fun _ => ⟨rfl, Nat.le_refl _, fun k _ => ⟨fun _ i => Nat.zero_le _, fun _ => rfl⟩⟩
    | succ n ih =>
      intro hn
      obtain ⟨i1, i2, i3⟩ := ih (by omega)
      have hn2 : n < 2 * c := by omega
      obtain ⟨m, hm1, hm2⟩ := ring_ex h hn2
      have hls : lst S.1 n 24 = true ↔ ∀ i, n ≤ it S.1 i n := by
        rw [lst_t]
        refine ⟨fun q i => ?_, fun q i _ => q i⟩
        obtain ⟨j, j1, j2⟩ := it_mod hm2 i
        rw [j2]
        exact q j (by omega)
      rw [mr_out]
      generalize mr_out S.1 (2 * c) (fun _ => -1) n = t at i1 i2 i3
      have hcn : cntB (fun k => lst S.1 k 24) (n + 1) = cntB (fun k => lst S.1 k 24) n + (if lst S.1 n 24 = true then 1 else 0) := rfl
      by_cases e : t.1 n = -1
      · have hl := hls.mpr ((i3 n hn2).mp e)
        rw [if_pos e]
        refine ⟨?_, ?_, fun k hk => ?_⟩
        · rw [hcn, if_pos hl, ← i1]
        · show t.2 + 1 ≤ n + 1
          omega
        · have hx : nI t.2 ≠ -1 := nI_nm1 (by omega)
          have hm3 := mr_in_mk h hn2 hm2 hx (2 * c) 0 t.1 (Nat.zero_le _) (by omega) (fun _ => Or.inr trivial) (fun j _ hj => by
            rw [i3 _ (it_lt h hn2 j)]
            intro i
            rw [← it_add]
            exact (i3 n hn2).mp e (i + j)) (fun j hj => absurd hj (Nat.not_lt_zero _)) k
          show mr_in S.1 (nI t.2) (2 * c) t.1 n k = -1 ↔ _
          refine hm3.trans ?_
          rw [i3 k hk]
          constructor
          · rintro ⟨q1, q2⟩ i
            have := q1 i
            rcases Nat.lt_or_ge n (it S.1 i k) with h9 | h9
            · exact h9
            · exfalso
              have e9 : it S.1 i k = n := by omega
              obtain ⟨m', hm1', hm2'⟩ := ring_ex h hk
              have hj : k = it S.1 (m' * i + m' - i) n := by
                rw [← e9, ← it_add, show m' * i + m' - i + i = (i + 1) * m' by
                  have h1 := hm2'.1
                  have : m' * i ≥ i := Nat.le_mul_of_pos_left i (by omega)
                  have e8 : (i + 1) * m' = m' * i + m' := by rw [Nat.succ_mul, Nat.mul_comm]
                  omega]
                exact (it_mul hm2'.2.1 (i + 1)).symm
              obtain ⟨j2, j3, j4⟩ := it_mod hm2 (m' * i + m' - i)
              exact q2 j2 (Nat.zero_le _) j3 (hj.trans j4)
          · intro q
            refine ⟨fun i => by have := q i; omega, fun j _ hj e9 => ?_⟩
            have := q (m - j)
            rw [e9, ← it_add, show m - j + j = m by omega, hm2.2.1] at this
            omega
      · have hl : ¬ lst S.1 n 24 = true := fun h9 => e ((i3 n hn2).mpr (hls.mp h9))
        rw [if_neg e]
        refine ⟨?_, by omega, fun k hk => ?_⟩
        · rw [hcn, if_neg hl]
          exact i1
        · rw [i3 k hk]
          constructor
          · intro q i
            have := q i
            rcases Nat.lt_or_ge n (it S.1 i k) with h9 | h9
            · exact h9
            · exfalso
              have e9 : it S.1 i k = n := by omega
              refine e ((i3 n hn2).mpr (fun j => ?_))
              rw [← e9, ← it_add]
              have := q (j + i)
              omega
          · intro q i
            have := q i
            omega
  exact (key (2 * c) (Nat.le_refl _)).1
end
section
/-! 99zzzzzs.cjoin -/
/-! the class: smooth, reverse, apart, join -/
theorem lst_all {c : Nat} {S : ow_NP} (h : vn c S) (hc : c ≤ 12) {k : Nat} (hk : k < 2 * c) : lst S.1 k 24 = true ↔ ∀ i, k ≤ it S.1 i k := by
  obtain ⟨m, hm1, hm2⟩ := ring_ex h hk
  rw [lst_t]
  refine ⟨fun q i => ?_, fun q i _ => q i⟩
  obtain ⟨j, j1, j2⟩ := it_mod hm2 i
  rw [j2]
  exact q j (by omega)
theorem turn_eq {t : Nat → Bool} {S : ow_NP} {G : Nat → Int32} : ∀ n k, (np_turn t S G n).1.1 k = (if k < n ∧ t k = true then S.2 k else S.1 k) ∧ (np_turn t S G n).1.2 k = (if k < n ∧ t k = true then S.1 k else S.2 k)
  | 0, k => by
    rw [if_neg (fun h => Nat.not_lt_zero _ h.1), if_neg (fun h => Nat.not_lt_zero _ h.1)]
    exact ⟨rfl, rfl⟩
  | n + 1, k => by
    have ih := turn_eq (t := t) (S := S) (G := G) n
    rw [np_turn]
    by_cases e : t n = true
    · rw [if_pos e]
      show nu (np_turn t S G n).1.1 n ((np_turn t S G n).1.2 n) k = _ ∧ nu (np_turn t S G n).1.2 n ((np_turn t S G n).1.1 n) k = _
      by_cases ek : k = n
      · rw [ek, nu_same, nu_same, (ih n).1, (ih n).2, if_neg (show ¬ (n < n ∧ t n = true) from fun h => Nat.lt_irrefl _ h.1), if_neg (show ¬ (n < n ∧ t n = true) from fun h => Nat.lt_irrefl _ h.1), if_pos ⟨Nat.lt_succ_self _, e⟩, if_pos ⟨Nat.lt_succ_self _, e⟩]
        exact ⟨rfl, rfl⟩
      · rw [nu_ne _ _ ek, nu_ne _ _ ek, (ih k).1, (ih k).2]
        have : (k < n ∧ t k = true) ↔ (k < n + 1 ∧ t k = true) := ⟨fun h => ⟨by omega, h.2⟩, fun h => ⟨by omega, h.2⟩⟩
        simp only [this]
        exact ⟨trivial, trivial⟩
    · rw [if_neg e, (ih k).1, (ih k).2]
      have : (k < n ∧ t k = true) ↔ (k < n + 1 ∧ t k = true) := by
        refine ⟨fun h => ⟨by omega, h.2⟩, fun h => ⟨?_, h.2⟩⟩
        rcases Nat.lt_or_ge k n with q | q
        · exact q
        · exact absurd (by rw [← show k = n by omega]; exact h.2) e
      simp only [this]
      exact ⟨trivial, trivial⟩
/-- components turned round: the net stays valid -/
theorem nv_turn {t : Nat → Bool} {T : ow_NT} {G : Nat → Int32} (hT : nv T) (ht : ∀ k, k < 2 * T.1 → t (T.2.2.1.1 k) = t k) : nv (T.1, T.2.1, (np_turn t T.2.2.1 T.2.2.2 (2 * T.1)).1, G) := by
  obtain ⟨h1, h2, h3, h4⟩ := hT
  have e1 : ∀ k, k < 2 * T.1 → (np_turn t T.2.2.1 T.2.2.2 (2 * T.1)).1.1 k = if t k = true then T.2.2.1.2 k else T.2.2.1.1 k := by
    intro k hk
    rw [(turn_eq (2 * T.1) k).1]
    by_cases e : t k = true
    · rw [if_pos ⟨hk, e⟩, if_pos e]
    · rw [if_neg (fun h => e h.2), if_neg e]
  have e2 : ∀ k, k < 2 * T.1 → (np_turn t T.2.2.1 T.2.2.2 (2 * T.1)).1.2 k = if t k = true then T.2.2.1.1 k else T.2.2.1.2 k := by
    intro k hk
    rw [(turn_eq (2 * T.1) k).2]
    by_cases e : t k = true
    · rw [if_pos ⟨hk, e⟩, if_pos e]
    · rw [if_neg (fun h => e h.2), if_neg e]
  have ht2 : ∀ k, k < 2 * T.1 → t (T.2.2.1.2 k) = t k := by
    intro k hk
    have := ht (T.2.2.1.2 k) (h1 k hk).2.1
    rw [(h1 k hk).2.2.2] at this
    exact this.symm
  have hv : vn T.1 (np_turn t T.2.2.1 T.2.2.2 (2 * T.1)).1 := by
    intro k hk
    obtain ⟨a1, a2, a3, a4⟩ := h1 k hk
    by_cases e : t k = true
    · rw [e1 k hk, e2 k hk, if_pos e, if_pos e]
      refine ⟨a2, a1, ?_, ?_⟩
      · rw [e2 _ a2, if_pos (by rw [ht2 k hk]; exact e)]
        exact a4
      · rw [e1 _ a1, if_pos (by rw [ht k hk]; exact e)]
        exact a3
    · rw [e1 k hk, e2 k hk, if_neg e, if_neg e]
      refine ⟨a1, a2, ?_, ?_⟩
      · rw [e2 _ a1, if_neg (by rw [ht k hk]; exact e)]
        exact a3
      · rw [e1 _ a2, if_neg (by rw [ht2 k hk]; exact e)]
        exact a4
  have hb : ow_b24 (np_turn t T.2.2.1 T.2.2.2 (2 * T.1)).1 := by
    refine ⟨fun k => ?_, fun k => ?_⟩
    · rw [(turn_eq (2 * T.1) k).1]
      split
      · exact h3.2 k
      · exact h3.1 k
    · rw [(turn_eq (2 * T.1) k).2]
      split
      · exact h3.1 k
      · exact h3.2 k
  refine ⟨hv, h2, hb, ?_⟩
  have htit : ∀ k, k < 2 * T.1 → ∀ i, t (it T.2.2.1.1 i k) = t k := by
    intro k hk i
    induction i with
    | zero => rfl
    | succ i ih =>
      show t (T.2.2.1.1 (it T.2.2.1.1 i k)) = _
      rw [ht _ (it_lt h1 hk i)]
      exact ih
  have hmono : np_rg T.1 (np_turn t T.2.2.1 T.2.2.2 (2 * T.1)).1 ≤ np_rg T.1 T.2.2.1 := by
    refine cntB_mono _ (fun k hk hl => ?_)
    have hl2 := (lst_all hv h2 hk).mp hl
    refine (lst_all h1 h2 hk).mpr (fun i => ?_)
    obtain ⟨m, hm1, hm2⟩ := ring_ex h1 hk
    obtain ⟨j, j1, j2⟩ := it_mod hm2 i
    rw [j2]
    by_cases e : t k = true
    · have back : ∀ q, q ≤ m → it (np_turn t T.2.2.1 T.2.2.2 (2 * T.1)).1.1 q k = it T.2.2.1.1 (m - q) k := by
        intro q
        induction q with
        | zero =>
          intro _
          rw [Nat.sub_zero, hm2.2.1]
          rfl
        | succ q ih =>
          intro hq
          show (np_turn t T.2.2.1 T.2.2.2 (2 * T.1)).1.1 (it (np_turn t T.2.2.1 T.2.2.2 (2 * T.1)).1.1 q k) = _
          have hlt := it_lt h1 hk (m - q)
          rw [ih (by omega), e1 _ hlt, if_pos (by rw [htit k hk]; exact e)]
          obtain ⟨n, hn⟩ : ∃ n, m - q = n + 1 := ⟨m - q - 1, by omega⟩
          rw [hn, show m - (q + 1) = n by omega]
          exact (h1 _ (it_lt h1 hk n)).2.2.1
      have := hl2 (m - j)
      rw [back _ (by omega), show m - (m - j) = j by omega] at this
      exact this
    · have fwd : ∀ q, it (np_turn t T.2.2.1 T.2.2.2 (2 * T.1)).1.1 q k = it T.2.2.1.1 q k := by
        intro q
        induction q with
        | zero => rfl
        | succ q ih =>
          show (np_turn t T.2.2.1 T.2.2.2 (2 * T.1)).1.1 (it (np_turn t T.2.2.1 T.2.2.2 (2 * T.1)).1.1 q k) = _
          rw [ih, e1 _ (it_lt h1 hk q), if_neg (by rw [htit k hk]; exact e)]
          rfl
      have := hl2 j
      rw [fwd] at this
      exact this
  show np_rg T.1 (np_turn t T.2.2.1 T.2.2.2 (2 * T.1)).1 + T.2.1 ≤ 6
  omega
/-- two nets one behind the other -/
def ntA (T R : ow_NT) : ow_NT := (T.1 + R.1, T.2.1 + R.2.1, (np_app T.2.2.1.1 R.2.2.1.1 (2 * T.1) (2 * R.1), np_app T.2.2.1.2 R.2.2.1.2 (2 * T.1) (2 * R.1)), va_cpy R.2.2.2 T.2.2.2 0 T.1 R.1)
theorem cntB_split {q : Nat → Bool} {a : Nat} : ∀ b, cntB q (a + b) = cntB q a + cntB (fun k => q (a + k)) b
  | 0 => rfl
  | b + 1 => by
    show cntB q (a + b) + (if q (a + b) = true then 1 else 0) = cntB q a + (cntB (fun k => q (a + k)) b + if q (a + b) = true then 1 else 0)
    rw [cntB_split b]
    omega
theorem ntA_ok {T R : ow_NT} (hT : nv T) (hR : nv R) (h12 : T.1 + R.1 ≤ 12) : vn (ntA T R).1 (ntA T R).2.2.1 ∧ ow_b24 (ntA T R).2.2.1 ∧ np_rg (ntA T R).1 (ntA T R).2.2.1 = np_rg T.1 T.2.2.1 + np_rg R.1 R.2.2.1 ∧ (∀ k i, k < 2 * T.1 → it (ntA T R).2.2.1.1 i k = it T.2.2.1.1 i k) ∧ ∀ k i, k < 2 * R.1 → it (ntA T R).2.2.1.1 i (2 * T.1 + k) = 2 * T.1 + it R.2.2.1.1 i k := by
  obtain ⟨t1, t2, t3, t4⟩ := hT
  obtain ⟨r1, r2, r3, r4⟩ := hR
  have lo : ∀ (N M : Nat → Nat) k, k < 2 * T.1 → np_app N M (2 * T.1) (2 * R.1) k = N k := fun N M k hk => if_neg (by omega)
  have hi : ∀ (N M : Nat → Nat) k, k < 2 * R.1 → np_app N M (2 * T.1) (2 * R.1) (2 * T.1 + k) = 2 * T.1 + M k := by
    intro N M k hk
    unfold np_app
    rw [if_pos (by omega), show 2 * T.1 + k - 2 * T.1 = k by omega]
  have hv : vn (T.1 + R.1) (ntA T R).2.2.1 := by
    intro k hk
    by_cases e : k < 2 * T.1
    · obtain ⟨a1, a2, a3, a4⟩ := t1 k e
      show np_app _ _ _ _ k < _ ∧ np_app _ _ _ _ k < _ ∧ np_app _ _ _ _ (np_app _ _ _ _ k) = k ∧ np_app _ _ _ _ (np_app _ _ _ _ k) = k
      rw [lo _ _ k e, lo _ _ k e, lo _ _ _ a1, lo _ _ _ a2]
      exact ⟨by omega, by omega, a3, a4⟩
    · obtain ⟨j, rfl⟩ : ∃ j, k = 2 * T.1 + j := ⟨k - 2 * T.1, by omega⟩
      have hj : j < 2 * R.1 := by omega
      obtain ⟨a1, a2, a3, a4⟩ := r1 j hj
      show np_app _ _ _ _ (2 * T.1 + j) < _ ∧ np_app _ _ _ _ (2 * T.1 + j) < _ ∧ np_app _ _ _ _ (np_app _ _ _ _ (2 * T.1 + j)) = _ ∧ np_app _ _ _ _ (np_app _ _ _ _ (2 * T.1 + j)) = _
      rw [hi _ _ j hj, hi _ _ j hj, hi _ _ _ a1, hi _ _ _ a2, a3, a4]
      exact ⟨by omega, by omega, rfl, rfl⟩
  have i1 : ∀ k i, k < 2 * T.1 → it (ntA T R).2.2.1.1 i k = it T.2.2.1.1 i k := by
    intro k i hk
    induction i with
    | zero => rfl
    | succ i ih =>
      show (ntA T R).2.2.1.1 (it (ntA T R).2.2.1.1 i k) = T.2.2.1.1 (it T.2.2.1.1 i k)
      rw [ih]
      exact lo _ _ _ (it_lt t1 hk i)
  have i2 : ∀ k i, k < 2 * R.1 → it (ntA T R).2.2.1.1 i (2 * T.1 + k) = 2 * T.1 + it R.2.2.1.1 i k := by
    intro k i hk
    induction i with
    | zero => rfl
    | succ i ih =>
      show (ntA T R).2.2.1.1 (it (ntA T R).2.2.1.1 i (2 * T.1 + k)) = 2 * T.1 + R.2.2.1.1 (it R.2.2.1.1 i k)
      rw [ih]
      exact hi _ _ _ (it_lt r1 hk i)
  refine ⟨hv, ⟨fun k => ?_, fun k => ?_⟩, ?_, i1, i2⟩
  · show (if 2 * T.1 ≤ k ∧ k < 2 * T.1 + 2 * R.1 then 2 * T.1 + R.2.2.1.1 (k - 2 * T.1) else T.2.2.1.1 k) < 24
    split
    · have := (r1 (k - 2 * T.1) (by omega)).1
      omega
    · exact t3.1 k
  · show (if 2 * T.1 ≤ k ∧ k < 2 * T.1 + 2 * R.1 then 2 * T.1 + R.2.2.1.2 (k - 2 * T.1) else T.2.2.1.2 k) < 24
    split
    · have := (r1 (k - 2 * T.1) (by omega)).2.1
      omega
    · exact t3.2 k
  · show np_rg (T.1 + R.1) (ntA T R).2.2.1 = _
    unfold np_rg
    rw [show 2 * (T.1 + R.1) = 2 * T.1 + 2 * R.1 by omega, cntB_split]
    congr 1
    · refine cntB_cg _ (fun k hk => ?_)
      have h1 := lst_all hv h12 (show k < 2 * (T.1 + R.1) by omega)
      have h2 := lst_all t1 t2 hk
      rw [Bool.eq_iff_iff, h1, h2]
      exact ⟨fun q i => by rw [← i1 k i hk]; exact q i, fun q i => by rw [i1 k i hk]; exact q i⟩
    · refine cntB_cg _ (fun k hk => ?_)
      have h1 := lst_all hv h12 (show 2 * T.1 + k < 2 * (T.1 + R.1) by omega)
      have h2 := lst_all r1 r2 hk
      rw [Bool.eq_iff_iff, h1, h2]
      exact ⟨fun q i => by have := q i; rw [i2 k i hk] at this; omega, fun q i => by have := q i; rw [i2 k i hk]; omega⟩
/-- an exchange between two rings makes one of them -/
theorem rg_merge {c v w : Nat} {S : ow_NP} (h : vn c S) (hc : c ≤ 12) (hv : v < 2 * c) (hw : w < 2 * c) (hne : ∀ i, it S.1 i v ≠ w) : np_rg c (np_exchange S v w) + 1 ≤ np_rg c S := by
  have hx := vn_exchange h hv hw
  obtain ⟨mv, hmv1, hmv2⟩ := ring_ex h hv
  obtain ⟨mw, hmw1, hmw2⟩ := ring_ex h hw
  have hne2 : ∀ i, it S.1 i w ≠ v := by
    intro i e
    obtain ⟨j, j1, j2⟩ := it_mod hmw2 i
    rw [e] at j2
    have : it S.1 (mw - j) v = w := by
      rw [j2, ← it_add, show mw - j + j = mw by omega]
      exact hmw2.2.1
    exact hne _ this
  -- along the rings
  have e1 : ∀ j, 1 ≤ j → j ≤ mw → it (np_exchange S v w).1 j v = it S.1 j w := by
    intro j
    induction j with
    | zero => intro h9; omega
    | succ j ih =>
      intro _ hj
      show (np_exchange S v w).1 (it (np_exchange S v w).1 j v) = S.1 (it S.1 j w)
      by_cases ej : j = 0
      · rw [ej]
        show (np_exchange S v w).1 v = S.1 w
        rw [np_exchange_1]
        have : v ≠ w := fun e9 => hne 0 e9
        rw [if_neg this, if_pos rfl]
      · rw [ih (by omega) (by omega), np_exchange_1, if_neg, if_neg (hne2 j)]
        exact hmw2.2.2 j (by omega) (by omega)
  have e2 : ∀ j, 1 ≤ j → j ≤ mv → it (np_exchange S v w).1 j w = it S.1 j v := by
    intro j
    induction j with
    | zero => intro h9; omega
    | succ j ih =>
      intro _ hj
      show (np_exchange S v w).1 (it (np_exchange S v w).1 j w) = S.1 (it S.1 j v)
      by_cases ej : j = 0
      · rw [ej]
        show (np_exchange S v w).1 w = S.1 v
        rw [np_exchange_1, if_pos rfl]
      · rw [ih (by omega) (by omega), np_exchange_1, if_neg (hne j), if_neg]
        exact hmv2.2.2 j (by omega) (by omega)
  have hvw : it (np_exchange S v w).1 mw v = w := by
    rw [e1 mw hmw2.1 (Nat.le_refl _)]
    exact hmw2.2.1
  have hwv : it (np_exchange S v w).1 mv w = v := by
    rw [e2 mv hmv2.1 (Nat.le_refl _)]
    exact hmv2.2.1
  -- what both rings hold is on the new ring, from any of its visits
  have allv : ∀ i, ∃ j, it (np_exchange S v w).1 j v = it S.1 i v := by
    intro i
    obtain ⟨j, j1, j2⟩ := it_mod hmv2 i
    rw [j2]
    by_cases ej : j = 0
    · rw [ej]
      exact ⟨0, rfl⟩
    · exact ⟨j + mw, by rw [it_add, hvw]; exact e2 j (by omega) (by omega)⟩
  have allw : ∀ i, ∃ j, it (np_exchange S v w).1 j v = it S.1 i w := by
    intro i
    obtain ⟨j, j1, j2⟩ := it_mod hmw2 i
    rw [j2]
    by_cases ej : j = 0
    · rw [ej]
      exact ⟨mw, hvw⟩
    · exact ⟨j, e1 j (by omega) (by omega)⟩
  obtain ⟨lv, lv1, ⟨a, a1, a2⟩, lv3⟩ := ring_least h hc hv hmv2 hmv1
  obtain ⟨lw, lw1, ⟨b, b1, b2⟩, lw3⟩ := ring_least h hc hw hmw2 hmw1
  have l1 : lst S.1 lv 24 = true := (lv3 lv ⟨a, a1, a2⟩).mpr rfl
  have l2 : lst S.1 lw 24 = true := (lw3 lw ⟨b, b1, b2⟩).mpr rfl
  have hlne : lv ≠ lw := by
    intro e
    have : it S.1 (mw - b + a) v = w := by
      rw [it_add, ← a2, e, b2, ← it_add, show mw - b + b = mw by omega]
      exact hmw2.2.1
    exact hne _ this
  -- a visit outside both rings goes as before
  have outs : ∀ k, k < 2 * c → (∀ i, it S.1 i k ≠ v) → (∀ i, it S.1 i k ≠ w) → ∀ i, it (np_exchange S v w).1 i k = it S.1 i k := by
    intro k hk h1 h2 i
    induction i with
    | zero => rfl
    | succ i ih =>
      show (np_exchange S v w).1 (it (np_exchange S v w).1 i k) = S.1 (it S.1 i k)
      rw [ih, np_exchange_1, if_neg (h2 i), if_neg (h1 i)]
  let M := if lv < lw then lw else lv
  have hM : lst S.1 M 24 = true ∧ M < 2 * c := by
    show lst S.1 (if lv < lw then lw else lv) 24 = true ∧ (if lv < lw then lw else lv) < 2 * c
    split
    · exact ⟨l2, lw1⟩
    · exact ⟨l1, lv1⟩
  have hrm := cntB_rm (q := fun k => lst S.1 k 24) hM.2 hM.1
  show cntB (fun k => lst (np_exchange S v w).1 k 24) (2 * c) + 1 ≤ cntB (fun k => lst S.1 k 24) (2 * c)
  rw [hrm]
  refine Nat.succ_le_succ (cntB_mono _ (fun k hk hl => ?_))
  have hl2 := (lst_all hx hc hk).mp hl
  rw [Bool.and_eq_true, decide_eq_true_iff]
  -- a visit of one of both rings
  have both : (∃ i, it (np_exchange S v w).1 i k = v) → lst S.1 k 24 = true ∧ k ≠ M := by
    rintro ⟨i, ei⟩
    have kv : ∀ j, k ≤ it S.1 j v := by
      intro j
      obtain ⟨q, hq⟩ := allv j
      have := hl2 (q + i)
      rw [it_add, ei, hq] at this
      exact this
    have kw : ∀ j, k ≤ it S.1 j w := by
      intro j
      obtain ⟨q, hq⟩ := allw j
      have := hl2 (q + i)
      rw [it_add, ei, hq] at this
      exact this
    have k1 : k ≤ lv := by rw [a2]; exact kv a
    have k2 : k ≤ lw := by rw [b2]; exact kw b
    -- k itself is on one of them
    have hon : (∃ j, k = it S.1 j v) ∨ ∃ j, k = it S.1 j w := by
      obtain ⟨mk, hk1, hk2⟩ := ring_ex hx hk
      obtain ⟨i2, i3, i4⟩ := it_mod hk2 i
      rw [ei] at i4
      have back : k = it (np_exchange S v w).1 (mk - i2) v := by
        have hh : it (np_exchange S v w).1 (mk - i2) (it (np_exchange S v w).1 i2 k) = k := by
          rw [← it_add, show mk - i2 + i2 = mk by omega]
          exact hk2.2.1
        rw [← i4] at hh
        exact hh.symm
      have cov : ∀ n, (∃ j, it (np_exchange S v w).1 n v = it S.1 j v) ∨ ∃ j, it (np_exchange S v w).1 n v = it S.1 j w := by
        intro n
        induction n with
        | zero => exact Or.inl ⟨0, rfl⟩
        | succ n ihn =>
          show (∃ j, (np_exchange S v w).1 (it (np_exchange S v w).1 n v) = _) ∨ ∃ j, (np_exchange S v w).1 (it (np_exchange S v w).1 n v) = _
          rw [np_exchange_1]
          by_cases q1 : it (np_exchange S v w).1 n v = w
          · rw [if_pos q1]
            exact Or.inl ⟨1, rfl⟩
          · rw [if_neg q1]
            by_cases q2 : it (np_exchange S v w).1 n v = v
            · rw [if_pos q2]
              exact Or.inr ⟨1, rfl⟩
            · rw [if_neg q2]
              rcases ihn with ⟨j, ej⟩ | ⟨j, ej⟩
              · exact Or.inl ⟨j + 1, by rw [ej]; rfl⟩
              · exact Or.inr ⟨j + 1, by rw [ej]; rfl⟩
      rcases cov (mk - i2) with ⟨j, ej⟩ | ⟨j, ej⟩
      · exact Or.inl ⟨j, back.trans ej⟩
      · exact Or.inr ⟨j, back.trans ej⟩
    have hlk : lst S.1 k 24 = true := by
      refine (lst_all h hc hk).mpr (fun n => ?_)
      rcases hon with ⟨j, ej⟩ | ⟨j, ej⟩
      · have e9 : it S.1 n k = it S.1 (n + j) v := by rw [it_add, ← ej]
        rw [e9]
        exact kv (n + j)
      · have e9 : it S.1 n k = it S.1 (n + j) w := by rw [it_add, ← ej]
        rw [e9]
        exact kw (n + j)
    refine ⟨hlk, ?_⟩
    show k ≠ if lv < lw then lw else lv
    split <;> omega
  by_cases q1 : ∃ i, it (np_exchange S v w).1 i k = v
  · exact both q1
  · have q2 : ∀ i, it (np_exchange S v w).1 i k ≠ w := by
      intro i e
      exact q1 ⟨mv + i, by rw [it_add, e]; exact hwv⟩
    have same : ∀ i, it S.1 i k = it (np_exchange S v w).1 i k := by
      intro i
      induction i with
      | zero => rfl
      | succ i ih =>
        show S.1 (it S.1 i k) = (np_exchange S v w).1 (it (np_exchange S v w).1 i k)
        rw [ih, np_exchange_1, if_neg (q2 i), if_neg (fun e => q1 ⟨i, e⟩)]
    have hlk : lst S.1 k 24 = true := by
      refine (lst_all h hc hk).mpr (fun n => ?_)
      rw [same n]
      exact hl2 n
    refine ⟨hlk, ?_⟩
    show k ≠ if lv < lw then lw else lv
    intro e
    split at e
    · -- k is lw
      have : it S.1 (mw - b) k = w := by
        rw [e, b2, ← it_add, show mw - b + b = mw by omega]
        exact hmw2.2.1
      rw [same] at this
      exact q2 _ this
    · have : it S.1 (mv - a) k = v := by
        rw [e, a2, ← it_add, show mv - a + a = mv by omega]
        exact hmv2.2.1
      rw [same] at this
      exact q1 ⟨_, this⟩
section CJ2
variable {vl : Nat → Nat} {y : ow_MS} {x x' : Int32}
theorem e_X11_smooth {vl : Nat → Nat} {r0 : Nat} {x1 : Int32} {x2 : Int32} {z : ow_MS} {Q : (Nat × Int32 × ow_MS) → Prop} (H : Tt (fun K _ => cm_X11_smooth_0 vl K x1 x2 r0 z) Q) : Te (fun K => ce_X11_smooth vl K r0 x1 x2 z) Q := w_te0 H
theorem e_X11_reverse {vl : Nat → Nat} {r0 : Nat} {x1 : Int32} {x2 : Int32} {z : ow_MS} {Q : (Nat × Int32 × ow_MS) → Prop} (H : Tt (fun K k => c_X11_reverse vl K k 0 x1 x2 r0 z) Q) : Te (fun K => ce_X11_reverse vl K r0 x1 x2 z) Q := w_te H
theorem u_X11_reverse_0 {vl : Nat → Nat} {x1 : Int32} {x2 : Int32} {r0 : Nat} {z : ow_MS} {Q : (Nat × Int32 × ow_MS) → Prop} (H : Tt (fun K k => cm_X11_reverse_0 vl K (c_X11_reverse vl K k) x1 x2 r0 z) Q) : Tt (fun K k => c_X11_reverse vl K k 0 x1 x2 r0 z) Q := w_un (fun _ _ => rfl) H
theorem u_X11_reverse_1 {vl : Nat → Nat} {x1 : Int32} {x2 : Int32} {r0 : Nat} {z : ow_MS} {Q : (Nat × Int32 × ow_MS) → Prop} (H : Tt (fun K k => cm_X11_reverse_1 vl K (c_X11_reverse vl K k) x1 x2 r0 z) Q) : Tt (fun K k => c_X11_reverse vl K k 1 x1 x2 r0 z) Q := w_un (fun _ _ => rfl) H
/-- both nets loaded -/
def lb2 (y y2 : ow_MS) (A B : rn_L) (j : Nat) : Prop := gN y2 ∧ fr uP y y2 ∧ ∃ T R sg sg', shA y2 4000 A sg T ∧ shA y2 5000 B sg' R ∧ T.1 + R.1 ≤ 12 ∧ A.length + B.length ≤ 6 + j
theorem e_X11_loadBoth {vl : Nat → Nat} {r0 : Nat} {x1 : Int32} {x2 : Int32} {x3 : Int32} {z : ow_MS} {Q : (Nat × ow_MS) → Prop} (H : Tt (fun K _ => cm_X11_loadBoth_0 vl K x1 x2 x3 r0 z) Q) : Te (fun K => ce_X11_loadBoth vl K r0 x1 x2 x3 z) Q := w_te0 H
theorem e_X11_apart {vl : Nat → Nat} {r0 : Nat} {x1 : Int32} {x2 : Int32} {z : ow_MS} {Q : (Nat × Int32 × ow_MS) → Prop} (H : Tt (fun K _ => cm_X11_apart_0 vl K x1 x2 r0 z) Q) : Te (fun K => ce_X11_apart vl K r0 x1 x2 z) Q := w_te0 H
theorem e_X11_join {vl : Nat → Nat} {r0 : Nat} {x1 : Int32} {x2 : Int32} {x3 : Int32} {x4 : Int32} {z : ow_MS} {Q : (Nat × Int32 × ow_MS) → Prop} (H : Tt (fun K _ => cm_X11_join_0 vl K x1 x2 x3 x4 r0 z) Q) : Te (fun K => ce_X11_join vl K r0 x1 x2 x3 x4 z) Q := w_te0 H
end CJ2
end
section
/-! 99zzzzzt.cmov -/
/-! the class: Mover, what moves make -/
theorem nH16 : nH 16000 := by unfold nH nHL; exact List.mem_cons_of_mem _ (List.mem_cons_of_mem _ List.mem_cons_self)
theorem nH17 : nH 17000 := by unfold nH nHL; exact List.mem_cons_of_mem _ (List.mem_cons_of_mem _ (List.mem_cons_of_mem _ List.mem_cons_self))
def zI (b : Bool) : Int32 := if b = true then 1 else 0
theorem zI_t {b : Bool} (h : b = true) : zI b = 1 := if_pos h
theorem zI_01 (b : Bool) : zI b = 0 ∨ zI b = 1 := by
  cases b
  · exact Or.inl rfl
  · exact Or.inr rfl
theorem zI_ne {b : Bool} (h : ¬ zI b = 0) : b = true := by
  cases b
  · exact absurd rfl h
  · rfl
theorem zI_e {b : Bool} (h : zI b = 0) : b = false := by
  cases b
  · rfl
  · exact absurd h (by decide)
section CM
variable {vl : Nat → Nat} {y : ow_MS} {h : Nat} {T R Q : ow_NT}
theorem u_X6_isBeside_1 {vl : Nat → Nat} {x1 : Int32} {x2 : Int32} {r0 : Nat} {z : ow_MS} {Q : (Int32 × ow_MS) → Prop} (H : Tt (fun K k => cm_X6_isBeside_1 vl K (c_X6_isBeside vl K k) x1 x2 r0 z) Q) : Tt (fun K k => c_X6_isBeside vl K k 1 x1 x2 r0 z) Q := w_un (fun _ _ => rfl) H
theorem e_X6_isBeside {vl : Nat → Nat} {r0 : Nat} {x1 : Int32} {x2 : Int32} {z : ow_MS} {Q : (Int32 × ow_MS) → Prop} (H : Tt (fun K k => c_X6_isBeside vl K k 0 x1 x2 r0 z) Q) : Te (fun K => ce_X6_isBeside vl K r0 x1 x2 z) Q := w_te H
theorem u_X6_isBeside_0 {vl : Nat → Nat} {x1 : Int32} {x2 : Int32} {r0 : Nat} {z : ow_MS} {Q : (Int32 × ow_MS) → Prop} (H : Tt (fun K k => cm_X6_isBeside_0 vl K (c_X6_isBeside vl K k) x1 x2 r0 z) Q) : Tt (fun K k => c_X6_isBeside vl K k 0 x1 x2 r0 z) Q := w_un (fun _ _ => rfl) H
theorem tc_isBeside {v w : Nat} (hh : nH h) (hy : cAt y h T) (hb : ow_b24 T.2.2.1) (hv : v < 24) (hw : w < 24) : Te (fun K => ce_X6_isBeside vl K h (nI v) (nI w) y) (fun r => r.1 = zI (mv_bs T.2.2.1.1 v w) ∧ r.2 = y) := by
  have c1 : mv_bs T.2.2.1.1 v w = true → Tt (fun K t => c_X6_isBeside vl K t 1 (nI v) (nI w) h y) (fun r => r.1 = zI (mv_bs T.2.2.1.1 v w) ∧ r.2 = y) := by
    intro e
    refine u_X6_isBeside_1 ?_; unfold cm_X6_isBeside_1
    exact w_okZ (Or.inr rfl) (w_some ⟨(zI_t e).symm, rfl⟩)
  have b1 := hb.1 v
  have b2 := hb.1 w
  refine e_X6_isBeside ?_
  refine u_X6_isBeside_0 ?_; unfold cm_X6_isBeside_0
  refine w_crI (nH_1 hh) rfl hv (hy.2.2.1 v) (w_eqN (by omega) (by omega) (fun e => c1 ?_) (fun e => w_crI (nH_1 hh) rfl hw (hy.2.2.1 w) (w_eqN (by omega) (by omega) (fun e2 => c1 ?_) (fun e2 => w_okZ (Or.inl rfl) (w_some ⟨?_, rfl⟩)))))
  · unfold mv_bs
    rw [decide_eq_true e]
    rfl
  · unfold mv_bs
    rw [decide_eq_true e2, Bool.or_true]
  · have : mv_bs T.2.2.1.1 v w = false := by
      unfold mv_bs
      rw [decide_eq_false e, decide_eq_false e2]
      rfl
    rw [this]
    rfl
theorem e_X6_isLoop {vl : Nat → Nat} {r0 : Nat} {x1 : Int32} {z : ow_MS} {Q : (Int32 × ow_MS) → Prop} (H : Tt (fun K _ => cm_X6_isLoop_0 vl K x1 r0 z) Q) : Te (fun K => ce_X6_isLoop vl K r0 x1 z) Q := w_te0 H
theorem tc_isLoop {x : Nat} (hh : nH h) (hy : cAt y h T) (hb : ow_b24 T.2.2.1) (hx : x < 12) : Te (fun K => ce_X6_isLoop vl K h (nI x) y) (fun r => r.1 = zI (mv_bs T.2.2.1.1 (2 * x) (2 * x + 1)) ∧ r.2 = y) := by
  refine e_X6_isLoop ?_; unfold cm_X6_isLoop_0
  rw [show (2 : Int32) * nI x = nI (2 * x) from pk_mul 2 _, nI_1]
  refine w_cs1 (tc_isBeside hh hy hb (show 2 * x < 24 by omega) (show 2 * x + 1 < 24 by omega)) ?_
  rintro r y1 ⟨e1, e2⟩
  dsimp only at e1 e2
  rw [e1, e2]
  exact w_okZ (zI_01 _) (w_some ⟨rfl, rfl⟩)
theorem e_X6_isPair {vl : Nat → Nat} {r0 : Nat} {x1 : Int32} {x2 : Int32} {z : ow_MS} {Q : (Int32 × ow_MS) → Prop} (H : Tt (fun K _ => cm_X6_isPair_0 vl K x1 x2 r0 z) Q) : Te (fun K => ce_X6_isPair vl K r0 x1 x2 z) Q := w_te0 H
theorem tc_isPair {x w : Nat} (hh : nH h) (hy : cAt y h T) (hb : ow_b24 T.2.2.1) (hx : x < 12) (hw : w < 12) : Te (fun K => ce_X6_isPair vl K h (nI x) (nI w) y) (fun r => r.1 = zI (mv_pair T.2.2.1.1 T.2.2.2 x w) ∧ r.2 = y) := by
  have e0 : ∀ {b : Bool}, b = false → mv_pair T.2.2.1.1 T.2.2.2 x w = b → (0 : Int32) = zI (mv_pair T.2.2.1.1 T.2.2.2 x w) := fun h1 h2 => by
    rw [h2, h1]
    rfl
  refine e_X6_isPair ?_; unfold cm_X6_isPair_0
  rw [show (2 : Int32) * nI x = nI (2 * x) from pk_mul 2 _, show (2 : Int32) * nI w = nI (2 * w) from pk_mul 2 _, nI_1, nI_1]
  refine w_crI (nH_3 hh) rfl hx (hy.2.2.2.2 x) (w_crI (nH_3 hh) rfl hw (hy.2.2.2.2 w) (w_if (fun e => w_okZ (Or.inl rfl) (w_some ⟨?_, rfl⟩)) (fun e => w_cs1 (tc_isBeside hh hy hb (show 2 * x < 24 by omega) (show 2 * w < 24 by omega)) ?_)))
  · have : mv_pair T.2.2.1.1 T.2.2.2 x w = false := by
      unfold mv_pair
      rw [decide_eq_false (by rw [e]; exact fun h9 => h9 rfl)]
      rfl
    rw [this]
    rfl
  · rintro r y1 ⟨e1, e2⟩
    dsimp only at e1 e2
    rw [e1, e2]
    refine w_if (fun q => w_okZ (Or.inl rfl) (w_some ⟨?_, rfl⟩)) (fun q => w_cs1 (tc_isBeside hh hy hb (show 2 * x + 1 < 24 by omega) (show 2 * w + 1 < 24 by omega)) ?_)
    · have : mv_pair T.2.2.1.1 T.2.2.2 x w = false := by
        unfold mv_pair
        rw [zI_e q, Bool.and_false]
        rfl
      rw [this]
      rfl
    · rintro r2 y2 ⟨e3, e4⟩
      dsimp only at e3 e4
      rw [e3, e4]
      refine w_if (fun q2 => w_okZ (Or.inl rfl) (w_some ⟨?_, rfl⟩)) (fun q2 => w_okZ (Or.inr rfl) (w_some ⟨?_, rfl⟩))
      · have : mv_pair T.2.2.1.1 T.2.2.2 x w = false := by
          unfold mv_pair
          rw [zI_e q2, Bool.and_false]
        rw [this]
        rfl
      · have : mv_pair T.2.2.1.1 T.2.2.2 x w = true := by
          unfold mv_pair
          rw [zI_ne q, zI_ne q2, decide_eq_true e]
          rfl
        rw [this]
        rfl
/-- the mover's nets -/
def mvS (y : ow_MS) (R Q : ow_NT) : Prop := cAt y 16000 R ∧ cAt y 17000 Q ∧ ow_b24 R.2.2.1 ∧ ow_b24 Q.2.2.1 ∧ R.1 ≤ 12 ∧ R.2.1 ≤ 6
theorem mvS_fr {y1 : ow_MS} {Q1 : ow_NT} (h : mvS y R Q) (hf : fr (cP 17000) y y1) (hQ : cAt y1 17000 Q1) (hb : ow_b24 Q1.2.2.1) : mvS y1 R Q1 := ⟨cAt_fr hf (fun g hg h9 => by unfold cP at hg h9; omega) h.1, hQ, h.2.2.1, hb, h.2.2.2.2⟩
theorem e_X6_oneGoes {vl : Nat → Nat} {r0 : Nat} {x1 : Int32} {z : ow_MS} {Q : (Int32 × ow_MS) → Prop} (H : Tt (fun K _ => cm_X6_oneGoes_0 vl K x1 r0 z) Q) : Te (fun K => ce_X6_oneGoes vl K r0 x1 z) Q := w_te0 H
theorem tc_oneGoes {x : Nat} (hS : mvS y R Q) (hx : x < R.1) : Te (fun K => ce_X6_oneGoes vl K 12000 (nI x) y) (fun r => r.1 = zI (mv_bs R.2.2.1.1 (2 * x) (2 * x + 1)) ∧ cAt r.2 17000 (mv_t0 Q R x) ∧ fr (cP 17000) y r.2) := by
  obtain ⟨h1, h2, h3, h4, h5, h6⟩ := id hS
  refine e_X6_oneGoes ?_; unfold cm_X6_oneGoes_0
  refine w_cs1 (tc_isLoop nH16 h1 h3 (show x < 12 by omega)) ?_
  rintro r y1 ⟨e1, e2⟩
  dsimp only at e1 e2
  rw [e1, e2]
  refine w_if (fun q => w_okZ (Or.inl rfl) (w_some ⟨q.symm, ?_, fr_rf⟩)) (fun q => w_cs0 (tc_copy nH17 nH16 (by unfold nDj; omega) h2 h1 h5) ?_)
  · unfold mv_t0
    rw [zI_e q, if_neg (by decide)]
    exact h2
  · rintro y2 ⟨g1, g2⟩
    refine w_cs0 (tc_removeCrossing (T := nt_copy Q R) nH17 g1 (nt_copy_b24 h4 h3) hx h5) ?_
    rintro y3 ⟨g3, g4⟩
    refine w_okZ (Or.inr rfl) (w_some ⟨?_, ?_, fr_tr g2 g4⟩)
    · rw [zI_ne q]
      rfl
    · unfold mv_t0
      rw [if_pos (zI_ne q)]
      exact g3
theorem e_X6_twoGo {vl : Nat → Nat} {r0 : Nat} {x1 : Int32} {x2 : Int32} {z : ow_MS} {Q : (Int32 × ow_MS) → Prop} (H : Tt (fun K _ => cm_X6_twoGo_0 vl K x1 x2 r0 z) Q) : Te (fun K => ce_X6_twoGo vl K r0 x1 x2 z) Q := w_te0 H
theorem tc_twoGo {x w : Nat} (hS : mvS y R Q) (hx : x < R.1) (hw : w < R.1) : Te (fun K => ce_X6_twoGo vl K 12000 (nI x) (nI w) y) (fun r => r.1 = zI (mv_b2 R x w) ∧ cAt r.2 17000 (mv_t2 Q R x w) ∧ fr (cP 17000) y r.2) := by
  obtain ⟨h1, h2, h3, h4, h5, h6⟩ := id hS
  have no : mv_b2 R x w = false → (0 : Int32) = zI (mv_b2 R x w) ∧ cAt y 17000 (mv_t2 Q R x w) := by
    intro e
    refine ⟨by rw [e]; rfl, ?_⟩
    unfold mv_t2
    rw [e, if_neg (by decide)]
    exact h2
  refine e_X6_twoGo ?_; unfold cm_X6_twoGo_0
  refine w_le (by omega) (by omega) (fun e => w_okZ (Or.inl rfl) (w_some ⟨(no ?_).1, (no ?_).2, fr_rf⟩)) (fun e => w_cs1 (tc_isPair nH16 h1 h3 (show x < 12 by omega) (show w < 12 by omega)) ?_)
  · unfold mv_b2
    rw [decide_eq_false (by omega)]
    rfl
  · unfold mv_b2
    rw [decide_eq_false (by omega)]
    rfl
  · rintro r y1 ⟨e1, e2⟩
    dsimp only at e1 e2
    rw [e1, e2]
    have eb : mv_b2 R x w = mv_pair R.2.2.1.1 R.2.2.2 x w := by
      unfold mv_b2
      rw [decide_eq_true e, Bool.true_and]
    refine w_if (fun q => w_okZ (Or.inl rfl) (w_some ⟨(no (eb.trans (zI_e q))).1, (no (eb.trans (zI_e q))).2, fr_rf⟩)) (fun q => w_cs0 (tc_copy nH17 nH16 (by unfold nDj; omega) h2 h1 h5) ?_)
    rintro y2 ⟨g1, g2⟩
    refine w_cs0 (tc_removeCrossing (T := nt_copy Q R) nH17 g1 (nt_copy_b24 h4 h3) hx h5) ?_
    rintro y3 ⟨g3, g4⟩
    refine w_cs0 (tc_removeCrossing (T := nt_rm (nt_copy Q R) x) nH17 g3 (np_rmS_b24 (nt_copy_b24 h4 h3) (by omega)) (show w < R.1 - 1 by omega) (show R.1 - 1 ≤ 12 by omega)) ?_
    rintro y4 ⟨g5, g6⟩
    refine w_okZ (Or.inr rfl) (w_some ⟨?_, ?_, fr_tr g2 (fr_tr g4 g6)⟩)
    · rw [eb, zI_ne q]
      rfl
    · unfold mv_t2
      rw [if_pos (eb.trans (zI_ne q))]
      exact g5
theorem u_X6_placePair_1 {vl : Nat → Nat} {x1 : Int32} {x2 : Int32} {x3 : Int32} {r0 : Nat} {z : ow_MS} {Q : ow_MS → Prop} (H : Tt (fun K k => cm_X6_placePair_1 vl K (c_X6_placePair vl K k) x1 x2 x3 r0 z) Q) : Tt (fun K k => c_X6_placePair vl K k 1 x1 x2 x3 r0 z) Q := w_un (fun _ _ => rfl) H
theorem e_X6_placePair {vl : Nat → Nat} {r0 : Nat} {x1 : Int32} {x2 : Int32} {x3 : Int32} {z : ow_MS} {Q : ow_MS → Prop} (H : Tt (fun K k => c_X6_placePair vl K k 0 x1 x2 x3 r0 z) Q) : Te (fun K => ce_X6_placePair vl K r0 x1 x2 x3 z) Q := w_te H
theorem u_X6_placePair_0 {vl : Nat → Nat} {x1 : Int32} {x2 : Int32} {x3 : Int32} {r0 : Nat} {z : ow_MS} {Q : ow_MS → Prop} (H : Tt (fun K k => cm_X6_placePair_0 vl K (c_X6_placePair vl K k) x1 x2 x3 r0 z) Q) : Tt (fun K k => c_X6_placePair vl K k 0 x1 x2 x3 r0 z) Q := w_un (fun _ _ => rfl) H
theorem tc_placePair {af : Option Nat} {f g : Nat} (hS : mvS y R Q) (ha : ∀ a, af = some a → a < 24) (hf : f < 24) (hg : g < 24) (ho : af = none → 1 ≤ Q.2.1) : Te (fun K => ce_X6_placePair vl K 12000 (oNI af) (nI f) (nI g) y) (fun y1 => cAt y1 17000 (nt_pair Q af f g) ∧ fr (cP 17000) y y1) := by
  obtain ⟨h1, h2, h3, h4, h5, h6⟩ := id hS
  let P : ow_MS → Prop := fun y1 => cAt y1 17000 (nt_pair Q af f g) ∧ fr (cP 17000) y y1
  have c1 : ∀ (y1 : ow_MS) (x : Int32) (Q1 : ow_NT), cAt y1 17000 Q1 → ow_b24 Q1.2.2.1 → fr (cP 17000) y y1 → ntS Q1 (np_putBehind Q1.2.2.1 f g) = nt_pair Q af f g → Tt (fun K t => c_X6_placePair vl K t 1 x (nI f) (nI g) 12000 y1) P := by
    intro y1 x Q1 q1 q2 q3 q4
    refine u_X6_placePair_1 ?_; unfold cm_X6_placePair_1
    refine w_cs0 (tc_putBehind nH17 q1 q2 hf hg) ?_
    rintro y2 ⟨g1, g2⟩
    rw [q4] at g1
    exact w_some ⟨g1, fr_tr q3 g2⟩
  refine e_X6_placePair ?_
  refine u_X6_placePair_0 ?_; unfold cm_X6_placePair_0
  cases af with
  | none =>
    refine w_ifT rfl (w_cs0 (tc_openCircle nH17 h2 hf (ho rfl)) ?_)
    rintro y1 ⟨g1, g2⟩
    exact c1 y1 _ _ g1 (nl_b24 h4 hf hf) g2 rfl
  | some a =>
    have ha24 := ha a rfl
    refine w_ifF (nI_nm1 (by omega)) (w_cs0 (tc_putBehind nH17 h2 h4 ha24 hf) ?_)
    rintro y1 ⟨g1, g2⟩
    exact c1 y1 _ _ g1 (np_putBehind_b24 h4 ha24 hf) g2 rfl
theorem ch_c : ∀ ch : Fin 4, ((nI ch.val &&& 2) = 0 ↔ ch.val / 2 % 2 = 0) ∧ (nI ch.val &&& 1) = nI (ch.val % 2) ∧ ((nI ch.val &&& 1) = 0 ↔ ch.val % 2 = 0) := by decide +kernel
theorem u_X6_oneComes_3 {vl : Nat → Nat} {x1 : Int32} {x2 : Int32} {x3 : Int32} {x4 : Int32} {r0 : Nat} {t0 : Int32} {t1 : Int32} {z : ow_MS} {Q : (Int32 × ow_MS) → Prop} (H : Tt (fun K k => cm_X6_oneComes_3 vl K (c_X6_oneComes vl K k) x1 x2 x3 x4 r0 t0 t1 z) Q) : Tt (fun K k => c_X6_oneComes vl K k 3 x1 x2 x3 x4 r0 t0 t1 z) Q := w_un (fun _ _ => rfl) H
theorem u_X6_oneComes_2 {vl : Nat → Nat} {x1 : Int32} {x2 : Int32} {x3 : Int32} {x4 : Int32} {r0 : Nat} {t0 : Int32} {t1 : Int32} {z : ow_MS} {Q : (Int32 × ow_MS) → Prop} (H : Tt (fun K k => cm_X6_oneComes_2 vl K (c_X6_oneComes vl K k) x1 x2 x3 x4 r0 t0 t1 z) Q) : Tt (fun K k => c_X6_oneComes vl K k 2 x1 x2 x3 x4 r0 t0 t1 z) Q := w_un (fun _ _ => rfl) H
theorem u_X6_oneComes_1 {vl : Nat → Nat} {x1 : Int32} {x2 : Int32} {x3 : Int32} {x4 : Int32} {r0 : Nat} {t0 : Int32} {t1 : Int32} {z : ow_MS} {Q : (Int32 × ow_MS) → Prop} (H : Tt (fun K k => cm_X6_oneComes_1 vl K (c_X6_oneComes vl K k) x1 x2 x3 x4 r0 t0 t1 z) Q) : Tt (fun K k => c_X6_oneComes vl K k 1 x1 x2 x3 x4 r0 t0 t1 z) Q := w_un (fun _ _ => rfl) H
theorem e_X6_oneComes {vl : Nat → Nat} {r0 : Nat} {x1 : Int32} {x2 : Int32} {z : ow_MS} {Q : (Int32 × ow_MS) → Prop} (H : Tt (fun K k => c_X6_oneComes vl K k 0 x1 x2 0 0 r0 0 0 z) Q) : Te (fun K => ce_X6_oneComes vl K r0 x1 x2 z) Q := w_te H
theorem u_X6_oneComes_0 {vl : Nat → Nat} {x1 : Int32} {x2 : Int32} {x3 : Int32} {x4 : Int32} {r0 : Nat} {t0 : Int32} {t1 : Int32} {z : ow_MS} {Q : (Int32 × ow_MS) → Prop} (H : Tt (fun K k => cm_X6_oneComes_0 vl K (c_X6_oneComes vl K k) x1 x2 x3 x4 r0 t0 t1 z) Q) : Tt (fun K k => c_X6_oneComes vl K k 0 x1 x2 x3 x4 r0 t0 t1 z) Q := w_un (fun _ _ => rfl) H
theorem tc_oneComes {gap ch : Nat} (hS : mvS y R Q) (h11 : R.1 + 1 ≤ 12) (hg : gap ≤ 2 * R.1) (hc : ch < 4) : Te (fun K => ce_X6_oneComes vl K 12000 (nI gap) (nI ch) y) (fun r => r.1 = zI (mv_b1 R gap) ∧ cAt r.2 17000 (mv_t1 Q R gap ch) ∧ fr (cP 17000) y r.2) := by
  obtain ⟨h1, h2, h3, h4, h5, h6⟩ := id hS
  obtain ⟨k1, k2, k3⟩ := ch_c ⟨ch, hc⟩
  dsimp only at k1 k2 k3
  let P : Int32 × ow_MS → Prop := fun r => r.1 = zI (mv_b1 R gap) ∧ cAt r.2 17000 (mv_t1 Q R gap ch) ∧ fr (cP 17000) y r.2
  have c1 : mv_b1 R gap = true → (gap = 2 * R.1 → 1 ≤ R.2.1) → Tt (fun K t => c_X6_oneComes vl K t 1 (nI gap) (nI ch) (nI (2 * R.1)) 0 12000 0 0 y) P := by
    intro eb ho
    have c3 : ∀ (y1 : ow_MS), cAt y1 17000 (nt_add (nt_copy Q R) (mv_sg ch)) → fr (cP 17000) y y1 → Tt (fun K t => c_X6_oneComes vl K t 3 (nI gap) (nI ch) (nI (2 * R.1)) (nI (2 * R.1 + ch % 2)) 12000 (oNI (mv_af R gap)) 0 y1) P := by
      intro y1 q1 q2
      have hS1 : mvS y1 R (nt_add (nt_copy Q R) (mv_sg ch)) := mvS_fr hS q2 q1 (nt_copy_b24 h4 h3)
      refine u_X6_oneComes_3 ?_; unfold cm_X6_oneComes_3
      rw [xor1 ⟨2 * R.1 + ch % 2, by omega⟩]
      refine w_cs0 (tc_placePair hS1 (fun a ea => ?_) (show 2 * R.1 + ch % 2 < 24 by omega) (mt_lt (c := 12) (by omega)) (fun ea => ?_)) ?_
      · unfold mv_af at ea
        split at ea
        · cases ea
        · cases ea
          omega
      · unfold mv_af at ea
        split at ea
        · rename_i q
          exact ho q
        · cases ea
      · rintro y2 ⟨g1, g2⟩
        refine w_okZ (Or.inr rfl) (w_some ⟨by rw [eb]; rfl, ?_, fr_tr q2 g2⟩)
        unfold mv_t1
        rw [if_pos eb]
        exact g1
    have c2 : ∀ (y1 : ow_MS), cAt y1 17000 (R.1 + 1, R.2.1, (nt_copy Q R).2.2) → fr (cP 17000) y y1 → Tt (fun K t => c_X6_oneComes vl K t 2 (nI gap) (nI ch) (nI (2 * R.1)) 0 12000 (mv_sg ch) (nI R.1) y1) P := by
      intro y1 q1 q2
      obtain ⟨a1, a2, a3, a4, a5⟩ := q1
      have q3 : cAt (usI y1 17003 R.1 (mv_sg ch)) 17000 (nt_add (nt_copy Q R) (mv_sg ch)) := ⟨a1, a2, fun k => rd_ot (by omega) (a3 k), fun k => rd_ot (by omega) (a4 k), fun k => by
        show (usI y1 17003 R.1 (mv_sg ch)).2.1 17003 k = su (nt_copy Q R).2.2.2 R.1 (mv_sg ch) k
        by_cases e : k = R.1
        · rw [e]
          exact po_usI_at.trans (if_pos rfl).symm
        · rw [show su (nt_copy Q R).2.2.2 R.1 (mv_sg ch) k = (nt_copy Q R).2.2.2 k from if_neg e]
          exact rd_ne e (a5 k)⟩
      refine u_X6_oneComes_2 ?_; unfold cm_X6_oneComes_2
      rw [k2, nI_add]
      refine w_ctI (nH_3 nH17) rfl (show R.1 < 12 by omega) (w_eqN (by omega) (by omega) (fun e => ?_) (fun e => ?_))
      · have := c3 _ q3 (fr_I2 q2 (by unfold cP; omega))
        have ea : oNI (mv_af R gap) = -1 := by
          unfold mv_af
          rw [if_pos e]
          rfl
        rw [ea] at this
        exact this
      · have := c3 _ q3 (fr_I2 q2 (by unfold cP; omega))
        have ea : oNI (mv_af R gap) = nI gap := by
          unfold mv_af
          rw [if_neg e]
          rfl
        rw [ea] at this
        exact this
    refine u_X6_oneComes_1 ?_; unfold cm_X6_oneComes_1
    refine w_cs0 (tc_copy nH17 nH16 (by unfold nDj; omega) h2 h1 h5) ?_
    rintro y1 ⟨g1, g2⟩
    refine w_rdF g1.1 (w_wrF ?_)
    have g1' : cAt (usF y1 17008 (nI (R.1 + 1))) 17000 (R.1 + 1, R.2.1, (nt_copy Q R).2.2) := ⟨po_usF_at, rf_ot (by omega) g1.2.1, g1.2.2.1, g1.2.2.2.1, g1.2.2.2.2⟩
    have e8 : nI (nt_copy Q R).1 + 1 = nI (R.1 + 1) := nI_1 _
    rw [e8]
    have fr1 : fr (cP 17000) y (usF y1 17008 (nI (R.1 + 1))) := fr_F2 g2 (by unfold cP; omega)
    have h16 : (usF y1 17008 (nI (R.1 + 1))).1 16008 = nI R.1 := rf_ot (by omega) ((g2 16008 (by unfold cP; omega)).1.trans h1.1)
    refine w_rdF h16 (w_if (fun e => ?_) (fun e => ?_))
    · have := c2 _ g1' fr1
      rw [show mv_sg ch = 1 from if_pos (k1.mp e)] at this
      exact this
    · have := c2 _ g1' fr1
      rw [show mv_sg ch = -1 from if_neg (fun h9 => e (k1.mpr h9))] at this
      exact this
  refine e_X6_oneComes ?_
  refine u_X6_oneComes_0 ?_; unfold cm_X6_oneComes_0
  refine w_rdF h1.1 ?_
  rw [show (2 : Int32) * nI R.1 = nI (2 * R.1) from pk_mul 2 _]
  refine w_eqN (by omega) (by omega) (fun e => w_rdF h1.2.1 (w_eqN (b := 0) (by omega) (by omega) (fun e2 => ?_) (fun e2 => c1 ?_ (fun _ => by omega)))) (fun e => c1 ?_ (fun h9 => absurd h9 e))
  · have eb : mv_b1 R gap = false := by
      unfold mv_b1
      rw [decide_eq_true e, decide_eq_true e2]
      rfl
    refine w_okZ (Or.inl rfl) (w_some ⟨by rw [eb]; rfl, ?_, fr_rf⟩)
    unfold mv_t1
    rw [eb, if_neg (by decide)]
    exact h2
  · unfold mv_b1
    rw [decide_eq_false e2, Bool.and_false]
    rfl
  · unfold mv_b1
    rw [decide_eq_false e, Bool.false_and]
    rfl
theorem an2_c : ∀ s : Fin 48, ((nI (s.val / 2) &&& 1) = 0 ↔ s.val / 2 % 2 = 0) := by decide +kernel
theorem an3_c : ∀ s : Fin 24, ((nI s.val &&& 1) = 0 ↔ s.val % 2 = 0) := by decide +kernel
theorem e_X6_isOver {vl : Nat → Nat} {r0 : Nat} {x1 : Int32} {z : ow_MS} {Q : (Int32 × ow_MS) → Prop} (H : Tt (fun K _ => cm_X6_isOver_0 vl K x1 r0 z) Q) : Te (fun K => ce_X6_isOver vl K r0 x1 z) Q := w_te0 H
theorem tc_isOver {s : Nat} (hy : cAt y 16000 R) (hb : ow_b24 R.2.2.1) (hs : s < 48) : Te (fun K => ce_X6_isOver vl K 12000 (nI s) y) (fun r => r.1 = zI (mv_ov R.2.2.1.1 s) ∧ r.2 = y) := by
  obtain ⟨l1, l2⟩ := sd_c ⟨s, hs⟩
  have l3 := an2_c ⟨s, hs⟩
  have l4 := an3_c ⟨R.2.2.1.1 (s / 2), hb.1 _⟩
  dsimp only at l1 l2 l3 l4
  refine e_X6_isOver ?_; unfold cm_X6_isOver_0
  rw [l2]
  refine w_if (fun e => w_crI (nH_1 nH16) rfl (show s / 2 < 24 by omega) (hy.2.2.1 _) (w_if (fun e2 => w_okZ (Or.inr rfl) (w_some ⟨?_, rfl⟩)) (fun e2 => w_okZ (Or.inl rfl) (w_some ⟨?_, rfl⟩)))) (fun e => w_okZ (Or.inl rfl) (w_some ⟨?_, rfl⟩))
  · have : mv_ov R.2.2.1.1 s = true := by
      unfold mv_ov
      rw [decide_eq_true (l3.mp e), decide_eq_true (l4.mp e2)]
      rfl
    rw [this]
    rfl
  · have : mv_ov R.2.2.1.1 s = false := by
      unfold mv_ov
      rw [decide_eq_false (fun h9 => e2 (l4.mpr h9)), Bool.and_false]
    rw [this]
    rfl
  · have : mv_ov R.2.2.1.1 s = false := by
      unfold mv_ov
      rw [decide_eq_false (fun h9 => e (l3.mpr h9)), Bool.false_and]
    rw [this]
    rfl
theorem end_24 {N : Nat → Nat} {s : Nat} (hN : ∀ k, N k < 24) (hs : s < 48) : fc_end N s < 24 := by
  unfold fc_end
  split
  · exact hN _
  · omega
theorem u_X6_isPassable_1 {vl : Nat → Nat} {x1 : Int32} {x2 : Int32} {x3 : Int32} {x4 : Int32} {x5 : Int32} {x6 : Int32} {r0 : Nat} {z : ow_MS} {Q : (Int32 × ow_MS) → Prop} (H : Tt (fun K k => cm_X6_isPassable_1 vl K (c_X6_isPassable vl K k) x1 x2 x3 x4 x5 x6 r0 z) Q) : Tt (fun K k => c_X6_isPassable vl K k 1 x1 x2 x3 x4 x5 x6 r0 z) Q := w_un (fun _ _ => rfl) H
theorem e_X6_isPassable {vl : Nat → Nat} {r0 : Nat} {x1 : Int32} {x2 : Int32} {x3 : Int32} {z : ow_MS} {Q : (Int32 × ow_MS) → Prop} (H : Tt (fun K k => c_X6_isPassable vl K k 0 x1 x2 x3 0 0 0 r0 z) Q) : Te (fun K => ce_X6_isPassable vl K r0 x1 x2 x3 z) Q := w_te H
theorem u_X6_isPassable_0 {vl : Nat → Nat} {x1 : Int32} {x2 : Int32} {x3 : Int32} {x4 : Int32} {x5 : Int32} {x6 : Int32} {r0 : Nat} {z : ow_MS} {Q : (Int32 × ow_MS) → Prop} (H : Tt (fun K k => cm_X6_isPassable_0 vl K (c_X6_isPassable vl K k) x1 x2 x3 x4 x5 x6 r0 z) Q) : Tt (fun K k => c_X6_isPassable vl K k 0 x1 x2 x3 x4 x5 x6 r0 z) Q := w_un (fun _ _ => rfl) H
theorem tc_isPassable {a b d : Nat} (hy : cAt y 16000 R) (hb : ow_b24 R.2.2.1) (ha : a < 48) (hb2 : b < 48) (hd : d < 48) : Te (fun K => ce_X6_isPassable vl K 12000 (nI a) (nI b) (nI d) y) (fun r => r.1 = zI (mv_pass R.2.2.1.1 a b d) ∧ r.2 = y) := by
  have ea := end_24 hb.1 ha
  have eb := end_24 hb.1 hb2
  have ed := end_24 hb.1 hd
  let P : Int32 × ow_MS → Prop := fun r => r.1 = zI (mv_pass R.2.2.1.1 a b d) ∧ r.2 = y
  have c1 : ∀ x y2 z : Int32, mv_pass R.2.2.1.1 a b d = true → Tt (fun K t => c_X6_isPassable vl K t 1 (nI a) (nI b) (nI d) x y2 z 12000 y) P := by
    intro x y2 z e
    refine u_X6_isPassable_1 ?_; unfold cm_X6_isPassable_1
    exact w_okZ (Or.inr rfl) (w_some ⟨by rw [e]; rfl, rfl⟩)
  have c0 : mv_pass R.2.2.1.1 a b d = false → Tt (fun _ _ => okZ 0 (some ((0 : Int32), y))) P := fun e => w_okZ (Or.inl rfl) (w_some ⟨by rw [e]; rfl, rfl⟩)
  refine e_X6_isPassable ?_
  refine u_X6_isPassable_0 ?_; unfold cm_X6_isPassable_0
  refine w_cs1 (tc_endOf nH16 hy ha) ?_
  rintro v1 z1 ⟨q1, q2⟩
  dsimp only at q1 q2
  rw [q1, q2]
  refine w_cs1 (tc_endOf nH16 hy hb2) ?_
  rintro v2 z2 ⟨q3, q4⟩
  dsimp only at q3 q4
  rw [q3, q4]
  refine w_cs1 (tc_endOf nH16 hy hd) ?_
  rintro v3 z3 ⟨q5, q6⟩
  dsimp only at q5 q6
  rw [q5, q6, shr1v ⟨_, ea⟩, shr1v ⟨_, eb⟩, shr1v ⟨_, ed⟩]
  dsimp only
  refine w_eqN (by omega) (by omega) (fun e => c0 ?_) (fun e1 => w_eqN (by omega) (by omega) (fun e => c0 ?_) (fun e2 => w_eqN (by omega) (by omega) (fun e => c0 ?_) (fun e3 => w_cs1 (tc_isOver hy hb ha) ?_)))
  · unfold mv_pass
    rw [decide_eq_false (fun h9 => h9 e)]
    rfl
  · unfold mv_pass
    rw [decide_eq_false (p := fc_end R.2.2.1.1 b / 2 ≠ fc_end R.2.2.1.1 d / 2) (fun h9 => h9 e), Bool.false_and, Bool.and_false]
  · unfold mv_pass
    rw [decide_eq_false (p := fc_end R.2.2.1.1 a / 2 ≠ fc_end R.2.2.1.1 d / 2) (fun h9 => h9 e), Bool.false_and, Bool.and_false, Bool.and_false]
  · have ep : mv_pass R.2.2.1.1 a b d = (mv_ov R.2.2.1.1 a || (mv_ov R.2.2.1.1 b || mv_ov R.2.2.1.1 d)) := by
      unfold mv_pass
      rw [decide_eq_true e1, decide_eq_true e2, decide_eq_true e3, Bool.true_and, Bool.true_and, Bool.true_and]
    rintro v4 z4 ⟨q7, q8⟩
    dsimp only at q7 q8
    rw [q7, q8]
    refine w_if (fun e => w_cs1 (tc_isOver hy hb hb2) ?_) (fun e => c1 _ _ _ (by rw [ep, zI_ne e]; rfl))
    rintro v5 z5 ⟨q9, q10⟩
    dsimp only at q9 q10
    rw [q9, q10]
    refine w_if (fun e' => w_cs1 (tc_isOver hy hb hd) ?_) (fun e' => c1 _ _ _ (by rw [ep, zI_ne e', Bool.true_or, Bool.or_true]))
    rintro v6 z6 ⟨q11, q12⟩
    dsimp only at q11 q12
    rw [q11, q12]
    refine w_if (fun e2 => c0 (by rw [ep, zI_e e, zI_e e', zI_e e2]; rfl)) (fun e2 => c1 _ _ _ (by rw [ep, zI_ne e2, Bool.or_true, Bool.or_true]))
theorem on_48 {S : ow_NP} {G : Nat → Int32} {s : Nat} (hb : ow_b24 S) (hs : s < 48) : fc_on S G s < 48 := by
  have h1 := end_24 hb.1 hs
  have h2 := mt_lt (c := 12) (show fc_end S.1 s < 2 * 12 by omega)
  have h3 := hb.2 (mt (fc_end S.1 s))
  unfold fc_on
  split <;> omega
theorem b24_sw {Q1 : ow_NT} {a : Nat} (hR : ow_b24 R.2.2.1) (h : ow_b24 Q1.2.2.1) (ha : a < 48) : ow_b24 (nt_sw R Q1 a).2.2.1 := np_swap_b24 h (by omega) (hR.1 _)
theorem e_X6_threePass {vl : Nat → Nat} {r0 : Nat} {x1 : Int32} {z : ow_MS} {Q : (Int32 × ow_MS) → Prop} (H : Tt (fun K _ => cm_X6_threePass_0 vl K x1 r0 z) Q) : Te (fun K => ce_X6_threePass vl K r0 x1 z) Q := w_te0 H
theorem tc_threePass {a : Nat} (hS : mvS y R Q) (ha : a < 48) : Te (fun K => ce_X6_threePass vl K 12000 (nI a) y) (fun r => r.1 = zI (mv_b4 R a) ∧ cAt r.2 17000 (mv_t4 Q R a) ∧ fr (cP 17000) y r.2) := by
  obtain ⟨h1, h2, h3, h4, h5, h6⟩ := id hS
  have hb := on_48 (G := R.2.2.2) h3 ha
  have hd := on_48 (G := R.2.2.2) h3 hb
  have he := on_48 (G := R.2.2.2) h3 hd
  have no : mv_b4 R a = false → Tt (fun _ _ => okZ 0 (some ((0 : Int32), y))) (fun r => r.1 = zI (mv_b4 R a) ∧ cAt r.2 17000 (mv_t4 Q R a) ∧ fr (cP 17000) y r.2) := by
    intro e
    refine w_okZ (Or.inl rfl) (w_some ⟨by rw [e]; rfl, ?_, fr_rf⟩)
    unfold mv_t4
    rw [e, if_neg (by decide)]
    exact h2
  refine e_X6_threePass ?_; unfold cm_X6_threePass_0
  refine w_cs1 (tc_onward nH16 h1 h3 ha) ?_
  rintro v1 z1 ⟨q1, q2⟩
  dsimp only at q1 q2
  rw [q1, q2]
  refine w_cs1 (tc_onward nH16 h1 h3 hb) ?_
  rintro v2 z2 ⟨q3, q4⟩
  dsimp only at q3 q4
  rw [q3, q4]
  refine w_le (by omega) (by omega) (fun e => no ?_) (fun e1 => w_le (by omega) (by omega) (fun e => no ?_) (fun e2 => w_cs1 (tc_onward nH16 h1 h3 hd) ?_))
  · unfold mv_b4
    rw [decide_eq_false (by omega), Bool.false_and]
  · unfold mv_b4
    rw [decide_eq_false (p := a < fc_on R.2.2.1 R.2.2.2 (fc_on R.2.2.1 R.2.2.2 a)) (by omega), Bool.false_and, Bool.and_false]
  · rintro v3 z3 ⟨q5, q6⟩
    dsimp only at q5 q6
    rw [q5, q6]
    refine w_eqN (by omega) (by omega) (fun e3 => w_cs1 (tc_isPassable h1 h3 ha hb hd) ?_) (fun e3 => no ?_)
    · rintro v4 z4 ⟨q7, q8⟩
      dsimp only at q7 q8
      rw [q7, q8]
      have eb : mv_b4 R a = mv_pass R.2.2.1.1 a (fc_on R.2.2.1 R.2.2.2 a) (fc_on R.2.2.1 R.2.2.2 (fc_on R.2.2.1 R.2.2.2 a)) := by
        unfold mv_b4
        rw [decide_eq_true e1, decide_eq_true e2, decide_eq_true e3, Bool.true_and, Bool.true_and, Bool.true_and]
      refine w_if (fun e => no (eb.trans (zI_e e))) (fun e => w_cs0 (tc_copy nH17 nH16 (by unfold nDj; omega) h2 h1 h5) ?_)
      rintro y1 ⟨g1, g2⟩
      have b1 : ow_b24 (nt_copy Q R).2.2.1 := nt_copy_b24 h4 h3
      have k16 : ∀ {z : ow_MS}, fr (cP 17000) y z → cAt z 16000 R := fun hf => cAt_fr hf (fun g hg h9 => by unfold cP at hg h9; omega) h1
      have s1 := (sd_c ⟨a, ha⟩).2
      have s2 := (sd_c ⟨_, hb⟩).2
      have s3 := (sd_c ⟨_, hd⟩).2
      dsimp only at s1 s2 s3
      rw [s1, s2, s3]
      refine w_crI (nH_1 nH16) rfl (show a / 2 < 24 by omega) ((k16 g2).2.2.1 _) (w_cs0 (tc_swapPlaces nH17 g1 b1 (show a / 2 < 24 by omega) (h3.1 _)) ?_)
      rintro y2 ⟨g3, g4⟩
      have f2 := fr_tr g2 g4
      have g3 : cAt y2 17000 (nt_sw R (nt_copy Q R) a) := g3
      have b2 := b24_sw h3 b1 ha
      refine w_crI (nH_1 nH16) rfl (show fc_on R.2.2.1 R.2.2.2 a / 2 < 24 by omega) ((k16 f2).2.2.1 _) (w_cs0 (tc_swapPlaces nH17 g3 b2 (show fc_on R.2.2.1 R.2.2.2 a / 2 < 24 by omega) (h3.1 _)) ?_)
      rintro y3 ⟨g5, g6⟩
      have f3 := fr_tr f2 g6
      have g5 : cAt y3 17000 (nt_sw R (nt_sw R (nt_copy Q R) a) (fc_on R.2.2.1 R.2.2.2 a)) := g5
      have b3 := b24_sw h3 b2 hb
      refine w_crI (nH_1 nH16) rfl (show fc_on R.2.2.1 R.2.2.2 (fc_on R.2.2.1 R.2.2.2 a) / 2 < 24 by omega) ((k16 f3).2.2.1 _) (w_cs0 (tc_swapPlaces nH17 g5 b3 (show fc_on R.2.2.1 R.2.2.2 (fc_on R.2.2.1 R.2.2.2 a) / 2 < 24 by omega) (h3.1 _)) ?_)
      rintro y4 ⟨g7, g8⟩
      refine w_okZ (Or.inr rfl) (w_some ⟨by rw [eb, zI_ne e]; rfl, ?_, fr_tr f3 g8⟩)
      unfold mv_t4
      rw [if_pos (eb.trans (zI_ne e))]
      exact g7
    · unfold mv_b4
      rw [decide_eq_false (p := fc_on R.2.2.1 R.2.2.2 (fc_on R.2.2.1 R.2.2.2 (fc_on R.2.2.1 R.2.2.2 a)) = a) e3, Bool.false_and, Bool.and_false, Bool.and_false]
end CM
end
section
/-! 99zzzzzu.cmov2 -/
/-! the class: Mover.twoCome, make -/
section CM2
variable {vl : Nat → Nat} {y : ow_MS} {h : Nat} {T R Q : ow_NT}
theorem u_X6_mayMeet_1 {vl : Nat → Nat} {x1 : Int32} {x2 : Int32} {x3 : Int32} {x4 : Int32} {x5 : Int32} {x6 : Int32} {r0 : Nat} {z : ow_MS} {Q : (Int32 × ow_MS) → Prop} (H : Tt (fun K k => cm_X6_mayMeet_1 vl K (c_X6_mayMeet vl K k) x1 x2 x3 x4 x5 x6 r0 z) Q) : Tt (fun K k => c_X6_mayMeet vl K k 1 x1 x2 x3 x4 x5 x6 r0 z) Q := w_un (fun _ _ => rfl) H
theorem e_X6_mayMeet {vl : Nat → Nat} {r0 : Nat} {x1 : Int32} {x2 : Int32} {z : ow_MS} {Q : (Int32 × ow_MS) → Prop} (H : Tt (fun K k => c_X6_mayMeet vl K k 0 x1 x2 0 0 0 0 r0 z) Q) : Te (fun K => ce_X6_mayMeet vl K r0 x1 x2 z) Q := w_te H
theorem u_X6_mayMeet_0 {vl : Nat → Nat} {x1 : Int32} {x2 : Int32} {x3 : Int32} {x4 : Int32} {x5 : Int32} {x6 : Int32} {r0 : Nat} {z : ow_MS} {Q : (Int32 × ow_MS) → Prop} (H : Tt (fun K k => cm_X6_mayMeet_0 vl K (c_X6_mayMeet vl K k) x1 x2 x3 x4 x5 x6 r0 z) Q) : Tt (fun K k => c_X6_mayMeet vl K k 0 x1 x2 x3 x4 x5 x6 r0 z) Q := w_un (fun _ _ => rfl) H
theorem tc_mayMeet {v w : Nat} {F P : Nat → Int32} (h18 : ∀ k, y.2.1 18001 k = F k) (h16 : ∀ k, y.2.1 16006 k = P k) (hv : v < 24) (hw : w < 24) : Te (fun K => ce_X6_mayMeet vl K 12000 (nI v) (nI w) y) (fun r => r.1 = zI (mv_meet F P v w) ∧ r.2 = y) := by
  have hF : fH 18000 := Or.inr (Or.inl rfl)
  let Q0 : Int32 × ow_MS → Prop := fun r => r.1 = zI (mv_meet F P v w) ∧ r.2 = y
  have c1 : ∀ a b c d : Int32, mv_meet F P v w = true → Tt (fun K t => c_X6_mayMeet vl K t 1 (nI v) (nI w) a b c d 12000 y) Q0 := by
    intro a b c d e
    refine u_X6_mayMeet_1 ?_; unfold cm_X6_mayMeet_1
    exact w_okZ (Or.inr rfl) (w_some ⟨by rw [e]; rfl, rfl⟩)
  refine e_X6_mayMeet ?_
  refine u_X6_mayMeet_0 ?_; unfold cm_X6_mayMeet_0
  rw [show (2 : Int32) * nI v = nI (2 * v) from pk_mul 2 _, show (2 : Int32) * nI w = nI (2 * w) from pk_mul 2 _, nI_1, nI_1]
  refine w_crI (fH_1 hF) rfl (show 2 * v < 48 by omega) (h18 _) (w_crI (fH_1 hF) rfl (show 2 * v + 1 < 48 by omega) (h18 _) (w_crI (fH_1 hF) rfl (show 2 * w < 48 by omega) (h18 _) (w_crI (fH_1 hF) rfl (show 2 * w + 1 < 48 by omega) (h18 _) (w_crI (nH_6 nH16) rfl hv (h16 _) (w_crI (nH_6 nH16) rfl hw (h16 _) ?_)))))
  refine w_if (fun e0 => w_if (fun e1 => c1 _ _ _ _ ?_) (fun e1 => w_if (fun e2 => c1 _ _ _ _ ?_) (fun e2 => w_if (fun e3 => c1 _ _ _ _ ?_) (fun e3 => w_if (fun e4 => c1 _ _ _ _ ?_) (fun e4 => w_okZ (Or.inl rfl) (w_some ⟨?_, rfl⟩)))))) (fun e0 => c1 _ _ _ _ ?_)
  · unfold mv_meet
    rw [decide_eq_true e1, Bool.true_or, Bool.or_true]
  · unfold mv_meet
    rw [decide_eq_true e2, Bool.true_or, Bool.or_true, Bool.or_true]
  · unfold mv_meet
    rw [decide_eq_true e3, Bool.true_or, Bool.or_true, Bool.or_true, Bool.or_true]
  · unfold mv_meet
    rw [decide_eq_true e4, Bool.or_true, Bool.or_true, Bool.or_true, Bool.or_true]
  · have : mv_meet F P v w = false := by
      unfold mv_meet
      rw [decide_eq_false (fun h9 => h9 e0), decide_eq_false e1, decide_eq_false e2, decide_eq_false e3, decide_eq_false e4]
      rfl
    rw [this]
    rfl
  · unfold mv_meet
    rw [decide_eq_true e0, Bool.true_or]
/-- exactly whether a net is plane -/
theorem tc_plane {f : Nat} (hh : nH h) (hF : fH f) (hd : h + 12 ≤ f ∨ f + 9 ≤ h) (hy : cAt y h T) (hb : ow_b24 T.2.2.1) (hv : vn T.1 T.2.2.1) (hT : T.1 ≤ 12) : Te (fun K => ce_X4_isPlane vl K f h y) (fun r => r.1 = zI (nt_plane T) ∧ fr (fun q => cQ h q ∨ cF f q) y r.2) := by
  refine w_monoE (tc_isPlane hh hF hd hy hb hv hT) ?_
  rintro r ⟨⟨a, b, -, -, e1, e2, e3⟩, e4⟩
  refine ⟨?_, e4⟩
  have q1 := (np_parts_of (N := T.2.2.1.1) (c := T.1) (fun a ha => (hv a ha).1) hT (y.2.1 (h + 6))).2
  have q2 := (mr_out_rl (fun a ha => fc_on_vn hv T.2.2.2 ha) (rl_fill (4 * T.1) (y.2.1 (f + 1)) (-1)) (4 * T.1) (Nat.le_refl _)).2
  rw [q1] at e2
  rw [q2] at e1
  rw [e3, e1, e2]
  unfold zI nt_plane np_faces
  by_cases e : (mr_out (fc_on T.2.2.1 T.2.2.2) (4 * T.1) (fun _ => -1) (4 * T.1)).2 = T.1 + 2 * (np_parts T.1 T.2.2.1.1).2
  · rw [if_pos e, if_pos (decide_eq_true e)]
  · rw [if_neg e, if_neg (fun h9 => e (of_decide_eq_true h9))]
def mvP (g : Nat) : Prop := 17001 ≤ g ∧ g ≤ 17011 ∨ g = 19001 ∨ g = 19002
theorem cP_mvP {y1 : ow_MS} (hf : fr (cP 17000) y y1) : fr mvP y y1 := fr_mono (fun g hg => by unfold cP at hg; unfold mvP; omega) hf
theorem u_X6_twoCome_10 {vl : Nat → Nat} {x1 : Int32} {x2 : Int32} {x3 : Int32} {x4 : Int32} {x5 : Int32} {x6 : Int32} {x7 : Int32} {x8 : Int32} {r0 : Nat} {t0 : Int32} {t1 : Int32} {t2 : Int32} {z : ow_MS} {Q : (Int32 × ow_MS) → Prop} (H : Tt (fun K k => cm_X6_twoCome_10 vl K (c_X6_twoCome vl K k) x1 x2 x3 x4 x5 x6 x7 x8 r0 t0 t1 t2 z) Q) : Tt (fun K k => c_X6_twoCome vl K k 10 x1 x2 x3 x4 x5 x6 x7 x8 r0 t0 t1 t2 z) Q := w_un (fun _ _ => rfl) H
theorem u_X6_twoCome_9 {vl : Nat → Nat} {x1 : Int32} {x2 : Int32} {x3 : Int32} {x4 : Int32} {x5 : Int32} {x6 : Int32} {x7 : Int32} {x8 : Int32} {r0 : Nat} {t0 : Int32} {t1 : Int32} {t2 : Int32} {z : ow_MS} {Q : (Int32 × ow_MS) → Prop} (H : Tt (fun K k => cm_X6_twoCome_9 vl K (c_X6_twoCome vl K k) x1 x2 x3 x4 x5 x6 x7 x8 r0 t0 t1 t2 z) Q) : Tt (fun K k => c_X6_twoCome vl K k 9 x1 x2 x3 x4 x5 x6 x7 x8 r0 t0 t1 t2 z) Q := w_un (fun _ _ => rfl) H
theorem u_X6_twoCome_8 {vl : Nat → Nat} {x1 : Int32} {x2 : Int32} {x3 : Int32} {x4 : Int32} {x5 : Int32} {x6 : Int32} {x7 : Int32} {x8 : Int32} {r0 : Nat} {t0 : Int32} {t1 : Int32} {t2 : Int32} {z : ow_MS} {Q : (Int32 × ow_MS) → Prop} (H : Tt (fun K k => cm_X6_twoCome_8 vl K (c_X6_twoCome vl K k) x1 x2 x3 x4 x5 x6 x7 x8 r0 t0 t1 t2 z) Q) : Tt (fun K k => c_X6_twoCome vl K k 8 x1 x2 x3 x4 x5 x6 x7 x8 r0 t0 t1 t2 z) Q := w_un (fun _ _ => rfl) H
theorem u_X6_twoCome_7 {vl : Nat → Nat} {x1 : Int32} {x2 : Int32} {x3 : Int32} {x4 : Int32} {x5 : Int32} {x6 : Int32} {x7 : Int32} {x8 : Int32} {r0 : Nat} {t0 : Int32} {t1 : Int32} {t2 : Int32} {z : ow_MS} {Q : (Int32 × ow_MS) → Prop} (H : Tt (fun K k => cm_X6_twoCome_7 vl K (c_X6_twoCome vl K k) x1 x2 x3 x4 x5 x6 x7 x8 r0 t0 t1 t2 z) Q) : Tt (fun K k => c_X6_twoCome vl K k 7 x1 x2 x3 x4 x5 x6 x7 x8 r0 t0 t1 t2 z) Q := w_un (fun _ _ => rfl) H
theorem u_X6_twoCome_6 {vl : Nat → Nat} {x1 : Int32} {x2 : Int32} {x3 : Int32} {x4 : Int32} {x5 : Int32} {x6 : Int32} {x7 : Int32} {x8 : Int32} {r0 : Nat} {t0 : Int32} {t1 : Int32} {t2 : Int32} {z : ow_MS} {Q : (Int32 × ow_MS) → Prop} (H : Tt (fun K k => cm_X6_twoCome_6 vl K (c_X6_twoCome vl K k) x1 x2 x3 x4 x5 x6 x7 x8 r0 t0 t1 t2 z) Q) : Tt (fun K k => c_X6_twoCome vl K k 6 x1 x2 x3 x4 x5 x6 x7 x8 r0 t0 t1 t2 z) Q := w_un (fun _ _ => rfl) H
theorem u_X6_twoCome_5 {vl : Nat → Nat} {x1 : Int32} {x2 : Int32} {x3 : Int32} {x4 : Int32} {x5 : Int32} {x6 : Int32} {x7 : Int32} {x8 : Int32} {r0 : Nat} {t0 : Int32} {t1 : Int32} {t2 : Int32} {z : ow_MS} {Q : (Int32 × ow_MS) → Prop} (H : Tt (fun K k => cm_X6_twoCome_5 vl K (c_X6_twoCome vl K k) x1 x2 x3 x4 x5 x6 x7 x8 r0 t0 t1 t2 z) Q) : Tt (fun K k => c_X6_twoCome vl K k 5 x1 x2 x3 x4 x5 x6 x7 x8 r0 t0 t1 t2 z) Q := w_un (fun _ _ => rfl) H
theorem u_X6_twoCome_4 {vl : Nat → Nat} {x1 : Int32} {x2 : Int32} {x3 : Int32} {x4 : Int32} {x5 : Int32} {x6 : Int32} {x7 : Int32} {x8 : Int32} {r0 : Nat} {t0 : Int32} {t1 : Int32} {t2 : Int32} {z : ow_MS} {Q : (Int32 × ow_MS) → Prop} (H : Tt (fun K k => cm_X6_twoCome_4 vl K (c_X6_twoCome vl K k) x1 x2 x3 x4 x5 x6 x7 x8 r0 t0 t1 t2 z) Q) : Tt (fun K k => c_X6_twoCome vl K k 4 x1 x2 x3 x4 x5 x6 x7 x8 r0 t0 t1 t2 z) Q := w_un (fun _ _ => rfl) H
theorem u_X6_twoCome_3 {vl : Nat → Nat} {x1 : Int32} {x2 : Int32} {x3 : Int32} {x4 : Int32} {x5 : Int32} {x6 : Int32} {x7 : Int32} {x8 : Int32} {r0 : Nat} {t0 : Int32} {t1 : Int32} {t2 : Int32} {z : ow_MS} {Q : (Int32 × ow_MS) → Prop} (H : Tt (fun K k => cm_X6_twoCome_3 vl K (c_X6_twoCome vl K k) x1 x2 x3 x4 x5 x6 x7 x8 r0 t0 t1 t2 z) Q) : Tt (fun K k => c_X6_twoCome vl K k 3 x1 x2 x3 x4 x5 x6 x7 x8 r0 t0 t1 t2 z) Q := w_un (fun _ _ => rfl) H
theorem u_X6_twoCome_2 {vl : Nat → Nat} {x1 : Int32} {x2 : Int32} {x3 : Int32} {x4 : Int32} {x5 : Int32} {x6 : Int32} {x7 : Int32} {x8 : Int32} {r0 : Nat} {t0 : Int32} {t1 : Int32} {t2 : Int32} {z : ow_MS} {Q : (Int32 × ow_MS) → Prop} (H : Tt (fun K k => cm_X6_twoCome_2 vl K (c_X6_twoCome vl K k) x1 x2 x3 x4 x5 x6 x7 x8 r0 t0 t1 t2 z) Q) : Tt (fun K k => c_X6_twoCome vl K k 2 x1 x2 x3 x4 x5 x6 x7 x8 r0 t0 t1 t2 z) Q := w_un (fun _ _ => rfl) H
theorem u_X6_twoCome_1 {vl : Nat → Nat} {x1 : Int32} {x2 : Int32} {x3 : Int32} {x4 : Int32} {x5 : Int32} {x6 : Int32} {x7 : Int32} {x8 : Int32} {r0 : Nat} {t0 : Int32} {t1 : Int32} {t2 : Int32} {z : ow_MS} {Q : (Int32 × ow_MS) → Prop} (H : Tt (fun K k => cm_X6_twoCome_1 vl K (c_X6_twoCome vl K k) x1 x2 x3 x4 x5 x6 x7 x8 r0 t0 t1 t2 z) Q) : Tt (fun K k => c_X6_twoCome vl K k 1 x1 x2 x3 x4 x5 x6 x7 x8 r0 t0 t1 t2 z) Q := w_un (fun _ _ => rfl) H
theorem e_X6_twoCome {vl : Nat → Nat} {r0 : Nat} {x1 : Int32} {x2 : Int32} {x3 : Int32} {z : ow_MS} {Q : (Int32 × ow_MS) → Prop} (H : Tt (fun K k => c_X6_twoCome vl K k 0 x1 x2 x3 0 0 0 0 0 r0 0 0 0 z) Q) : Te (fun K => ce_X6_twoCome vl K r0 x1 x2 x3 z) Q := w_te H
theorem u_X6_twoCome_0 {vl : Nat → Nat} {x1 : Int32} {x2 : Int32} {x3 : Int32} {x4 : Int32} {x5 : Int32} {x6 : Int32} {x7 : Int32} {x8 : Int32} {r0 : Nat} {t0 : Int32} {t1 : Int32} {t2 : Int32} {z : ow_MS} {Q : (Int32 × ow_MS) → Prop} (H : Tt (fun K k => cm_X6_twoCome_0 vl K (c_X6_twoCome vl K k) x1 x2 x3 x4 x5 x6 x7 x8 r0 t0 t1 t2 z) Q) : Tt (fun K k => c_X6_twoCome vl K k 0 x1 x2 x3 x4 x5 x6 x7 x8 r0 t0 t1 t2 z) Q := w_un (fun _ _ => rfl) H
theorem tc_twoCome {o u ch : Nat} {F P : Nat → Int32} (hS : mvS y R Q) (hvR : vn R.1 R.2.2.1) (h10 : R.1 + 2 ≤ 12) (ho : o ≤ 2 * R.1) (hu : u ≤ 2 * R.1 + 1) (hc : ch < 4) (h18 : ∀ k, y.2.1 18001 k = F k) (h16 : ∀ k, y.2.1 16006 k = P k) : Te (fun K => ce_X6_twoCome vl K 12000 (nI o) (nI u) (nI ch) y) (fun r => r.1 = zI (mv_b3 R F P o u && nt_plane (mv_t3b Q R o u ch)) ∧ cAt r.2 17000 (mv_t3 Q R F P o u ch) ∧ fr mvP y r.2) := by
  obtain ⟨h1, h2, h3, h4, h5, h6⟩ := id hS
  obtain ⟨k1, k2, k3⟩ := ch_c ⟨ch, hc⟩
  dsimp only at k1 k2 k3
  let P0 : Int32 × ow_MS → Prop := fun r => r.1 = zI (mv_b3 R F P o u && nt_plane (mv_t3b Q R o u ch)) ∧ cAt r.2 17000 (mv_t3 Q R F P o u ch) ∧ fr mvP y r.2
  have no : mv_b3 R F P o u = false → Tt (fun _ _ => okZ 0 (some ((0 : Int32), y))) P0 := by
    intro e
    refine w_okZ (Or.inl rfl) (w_some ⟨by rw [e, Bool.false_and]; rfl, ?_, fr_rf⟩)
    unfold mv_t3
    rw [e, if_neg (by decide)]
    exact h2
  have hsame : ∀ (t : Int32), t = (if ch / 2 % 2 = 0 then 1 else 0) → (t = 0 ↔ ¬ ch / 2 % 2 = 0) := by
    intro t e
    rw [e]
    by_cases q : ch / 2 % 2 = 0
    · rw [if_pos q]
      exact ⟨fun h9 => absurd h9 (by decide), fun h9 => absurd q h9⟩
    · rw [if_neg q]
      exact ⟨fun _ => q, fun _ => rfl⟩
  -- the move is there
  have c3 : ∀ x6 : Int32, mv_b3 R F P o u = true → Tt (fun K t => c_X6_twoCome vl K t 3 (nI o) (nI u) (nI ch) (nI (2 * R.1)) (nI (2 * R.1 + 2)) x6 0 0 12000 0 0 0 y) P0 := by
    intro x6 eb
    have hnd : mv_nd R o u ≤ R.2.1 := by
      unfold mv_b3 at eb
      exact of_decide_eq_true ((Bool.and_eq_true _ _).mp eb).1
    have hb24a : ow_b24 (nt_copy Q R).2.2.1 := nt_copy_b24 h4 h3
    have haf : ∀ a, mv_af R o = some a → a < 24 := fun a ea => by
      have := mv_af_lt ho ea
      omega
    have hb24b : ow_b24 (mv_t3a Q R o ch).2.2.1 := nt_pair_b24 (Q := nt_add (nt_add (nt_copy Q R) (mv_s1 ch)) (mv_s2 ch)) hb24a haf (by omega) (by omega)
    have hau : ∀ a, mv_au R u = some a → a < 24 := fun a ea => by
      have := mv_au_in ea
      omega
    -- the end
    have c10 : ∀ (y1 : ow_MS) (x7 x8 : Int32), cAt y1 17000 (mv_t3a Q R o ch) → fr (cP 17000) y y1 → Tt (fun K t => c_X6_twoCome vl K t 10 (nI o) (nI u) (nI ch) (nI (2 * R.1)) (nI (2 * R.1 + 2)) x6 x7 x8 12000 (nI (if ch / 2 % 2 = 0 then 2 * R.1 + 3 else 2 * R.1 + 1)) (nI (if ch / 2 % 2 = 0 then 2 * R.1 + 1 else 2 * R.1 + 3)) (oNI (mv_au R u)) y1) P0 := by
      intro y1 x7 x8 q1 q2
      have hS1 : mvS y1 R (mv_t3a Q R o ch) := mvS_fr hS q2 q1 hb24b
      have hci : mv_au R u = none → 1 ≤ (mv_t3a Q R o ch).2.1 := by
        intro ea
        have hu2 : u = 2 * R.1 + 1 := by
          unfold mv_au at ea
          split at ea
          · cases ea
          · split at ea
            · cases ea
            · omega
        unfold mv_nd at hnd
        rw [if_pos hu2] at hnd
        unfold mv_t3a mv_af
        by_cases eo : o = 2 * R.1
        · rw [if_pos eo] at hnd ⊢
          show 1 ≤ R.2.1 - 1
          omega
        · rw [if_neg eo] at hnd ⊢
          show 1 ≤ R.2.1
          omega
      refine u_X6_twoCome_10 ?_; unfold cm_X6_twoCome_10
      refine w_cs0 (tc_placePair hS1 hau (by split <;> omega) (by split <;> omega) hci) ?_
      rintro y2 ⟨g1, g2⟩
      have g1 : cAt y2 17000 (mv_t3b Q R o u ch) := g1
      have hbb : ow_b24 (mv_t3b Q R o u ch).2.2.1 := nt_pair_b24 hb24b hau (by split <;> omega) (by split <;> omega)
      have hcc : (mv_t3b Q R o u ch).1 = R.1 + 2 := mv_t3b_c Q R o u ch
      refine w_cs1 (tc_plane (f := 19000) nH17 (Or.inr (Or.inr rfl)) (by omega) g1 hbb (by rw [hcc]; exact vn_t3b hvR ho) (by omega)) ?_
      rintro r y3 ⟨e1, e2⟩
      dsimp only at e1 e2
      rw [e1]
      have hf2 : fr mvP y y2 := fr_tr (cP_mvP q2) (cP_mvP g2)
      refine w_okZ (zI_01 _) (w_some ⟨by rw [eb, Bool.true_and], ?_, fr_tr hf2 (fr_mono (fun g hg => by unfold cQ cF at hg; unfold mvP; omega) e2)⟩)
      unfold mv_t3
      rw [if_pos eb]
      exact cAt_fr e2 (fun g hg h9 => by unfold cP at hg; unfold cQ cF at h9; omega) g1
    have c8 : ∀ (y1 : ow_MS) (x7 : Int32), x7 = (if ch / 2 % 2 = 0 then 1 else 0) → cAt y1 17000 (mv_t3a Q R o ch) → fr (cP 17000) y y1 → Tt (fun K t => c_X6_twoCome vl K t 8 (nI o) (nI u) (nI ch) (nI (2 * R.1)) (nI (2 * R.1 + 2)) x6 x7 0 12000 (oNI (mv_au R u)) 0 0 y1) P0 := by
      intro y1 x7 e7 q1 q2
      have hs := hsame x7 e7
      have c9 : Tt (fun K t => c_X6_twoCome vl K t 9 (nI o) (nI u) (nI ch) (nI (2 * R.1)) (nI (2 * R.1 + 2)) x6 x7 (oNI (mv_au R u)) 12000 (nI (if ch / 2 % 2 = 0 then 2 * R.1 + 1 else 2 * R.1 + 3)) (oNI (mv_au R u)) 0 y1) P0 := by
        have := c10 y1 x7 (oNI (mv_au R u)) q1 q2
        refine u_X6_twoCome_9 ?_; unfold cm_X6_twoCome_9
        rw [nI_1, nI_1]
        refine w_if (fun e => ?_) (fun e => ?_)
        · rw [if_neg (hs.mp e), if_neg (hs.mp e)] at this
          rw [if_neg (hs.mp e)]
          exact this
        · have e2 : ch / 2 % 2 = 0 := by
            apply Classical.byContradiction
            exact fun h9 => e (hs.mpr h9)
          rw [if_pos e2, if_pos e2] at this
          rw [if_pos e2]
          exact this
      refine u_X6_twoCome_8 ?_; unfold cm_X6_twoCome_8
      rw [nI_1, nI_1]
      refine w_if (fun e => ?_) (fun e => ?_)
      · rw [if_neg (hs.mp e)] at c9
        exact c9
      · have e2 : ch / 2 % 2 = 0 := by
          apply Classical.byContradiction
          exact fun h9 => e (hs.mpr h9)
        rw [if_pos e2] at c9
        exact c9
    have c7 : ∀ (y1 : ow_MS) (t0 : Int32), t0 = (if ch / 2 % 2 = 0 then 1 else 0) → cAt y1 17000 (mv_t3a Q R o ch) → fr (cP 17000) y y1 → Tt (fun K t => c_X6_twoCome vl K t 7 (nI o) (nI u) (nI ch) (nI (2 * R.1)) (nI (2 * R.1 + 2)) x6 0 0 12000 t0 0 0 y1) P0 := by
      intro y1 t0 e0 q1 q2
      have := c8 y1 t0 e0 q1 q2
      refine u_X6_twoCome_7 ?_; unfold cm_X6_twoCome_7
      refine w_le (by omega) (by omega) (fun e => w_eqN (by omega) (by omega) (fun e2 => ?_) (fun e2 => ?_)) (fun e => ?_)
      · rw [show oNI (mv_au R u) = nI (2 * R.1 + 2) from by unfold mv_au; rw [if_neg (by omega), if_pos e2]; rfl] at this
        exact this
      · rw [show oNI (mv_au R u) = -1 from by unfold mv_au; rw [if_neg (by omega), if_neg e2]; rfl] at this
        exact this
      · rw [show oNI (mv_au R u) = nI u from by unfold mv_au; rw [if_pos e]; rfl] at this
        exact this
    have c6 : ∀ (y1 : ow_MS), cAt y1 17000 (nt_add (nt_add (nt_copy Q R) (mv_s1 ch)) (mv_s2 ch)) → fr (cP 17000) y y1 → Tt (fun K t => c_X6_twoCome vl K t 6 (nI o) (nI u) (nI ch) (nI (2 * R.1)) (nI (2 * R.1 + 2)) x6 0 0 12000 (oNI (mv_af R o)) 0 0 y1) P0 := by
      intro y1 q1 q2
      have hS1 : mvS y1 R (nt_add (nt_add (nt_copy Q R) (mv_s1 ch)) (mv_s2 ch)) := mvS_fr hS q2 q1 hb24a
      refine u_X6_twoCome_6 ?_; unfold cm_X6_twoCome_6
      refine w_cs0 (tc_placePair hS1 haf (show 2 * R.1 < 24 by omega) (show 2 * R.1 + 2 < 24 by omega) (fun ea => ?_)) ?_
      · have eo : o = 2 * R.1 := by
          unfold mv_af at ea
          split at ea
          · rename_i q
            exact q
          · cases ea
        unfold mv_nd at hnd
        rw [if_pos eo] at hnd
        show 1 ≤ R.2.1
        omega
      · rintro y2 ⟨g1, g2⟩
        have g1 : cAt y2 17000 (mv_t3a Q R o ch) := g1
        refine w_if (fun e => c7 y2 1 ?_ g1 (fr_tr q2 g2)) (fun e => c7 y2 0 ?_ g1 (fr_tr q2 g2))
        · rw [if_pos (k1.mp e)]
        · rw [if_neg (fun h9 => e (k1.mpr h9))]
    have c5 : ∀ (y1 : ow_MS), cAt y1 17000 (R.1 + 2, R.2.1, (nt_copy Q R).2.2.1, su (nt_copy Q R).2.2.2 R.1 (mv_s1 ch)) → fr (cP 17000) y y1 → Tt (fun K t => c_X6_twoCome vl K t 5 (nI o) (nI u) (nI ch) (nI (2 * R.1)) (nI (2 * R.1 + 2)) x6 0 0 12000 (mv_s2 ch) (nI (R.1 + 1)) 0 y1) P0 := by
      intro y1 q1 q2
      obtain ⟨a1, a2, a3, a4, a5⟩ := q1
      have q3 : cAt (usI y1 17003 (R.1 + 1) (mv_s2 ch)) 17000 (nt_add (nt_add (nt_copy Q R) (mv_s1 ch)) (mv_s2 ch)) := ⟨a1, a2, fun k => rd_ot (by omega) (a3 k), fun k => rd_ot (by omega) (a4 k), fun k => by
        show (usI y1 17003 (R.1 + 1) (mv_s2 ch)).2.1 17003 k = su (su (nt_copy Q R).2.2.2 R.1 (mv_s1 ch)) (R.1 + 1) (mv_s2 ch) k
        by_cases e : k = R.1 + 1
        · rw [e]
          exact po_usI_at.trans (if_pos rfl).symm
        · rw [show su (su (nt_copy Q R).2.2.2 R.1 (mv_s1 ch)) (R.1 + 1) (mv_s2 ch) k = su (nt_copy Q R).2.2.2 R.1 (mv_s1 ch) k from if_neg e]
          exact rd_ne e (a5 k)⟩
      have := c6 _ q3 (fr_I2 q2 (by unfold cP; omega))
      refine u_X6_twoCome_5 ?_; unfold cm_X6_twoCome_5
      refine w_ctI (nH_3 nH17) rfl (show R.1 + 1 < 12 by omega) (w_eqN (by omega) (by omega) (fun e => ?_) (fun e => ?_))
      · rw [show oNI (mv_af R o) = -1 from by unfold mv_af; rw [if_pos e]; rfl] at this
        exact this
      · rw [show oNI (mv_af R o) = nI o from by unfold mv_af; rw [if_neg e]; rfl] at this
        exact this
    have c4 : ∀ (y1 : ow_MS), cAt y1 17000 (R.1 + 2, R.2.1, (nt_copy Q R).2.2) → fr (cP 17000) y y1 → Tt (fun K t => c_X6_twoCome vl K t 4 (nI o) (nI u) (nI ch) (nI (2 * R.1)) (nI (2 * R.1 + 2)) x6 0 0 12000 (mv_s1 ch) (nI R.1) 0 y1) P0 := by
      intro y1 q1 q2
      obtain ⟨a1, a2, a3, a4, a5⟩ := q1
      have q3 : cAt (usI y1 17003 R.1 (mv_s1 ch)) 17000 (R.1 + 2, R.2.1, (nt_copy Q R).2.2.1, su (nt_copy Q R).2.2.2 R.1 (mv_s1 ch)) := ⟨a1, a2, fun k => rd_ot (by omega) (a3 k), fun k => rd_ot (by omega) (a4 k), fun k => by
        show (usI y1 17003 R.1 (mv_s1 ch)).2.1 17003 k = su (nt_copy Q R).2.2.2 R.1 (mv_s1 ch) k
        by_cases e : k = R.1
        · rw [e]
          exact po_usI_at.trans (if_pos rfl).symm
        · rw [show su (nt_copy Q R).2.2.2 R.1 (mv_s1 ch) k = (nt_copy Q R).2.2.2 k from if_neg e]
          exact rd_ne e (a5 k)⟩
      have f3 : fr (cP 17000) y (usI y1 17003 R.1 (mv_s1 ch)) := fr_I2 q2 (by unfold cP; omega)
      have := c5 _ q3 f3
      refine u_X6_twoCome_4 ?_; unfold cm_X6_twoCome_4
      refine w_ctI (nH_3 nH17) rfl (show R.1 < 12 by omega) (w_rdF ((f3 16008 (by unfold cP; omega)).1.trans h1.1) ?_)
      rw [nI_1]
      refine w_if (fun e => ?_) (fun e => ?_)
      · rw [show mv_s2 ch = -1 from if_pos (k3.mp e)] at this
        exact this
      · rw [show mv_s2 ch = 1 from if_neg (fun h9 => e (k3.mpr h9))] at this
        exact this
    refine u_X6_twoCome_3 ?_; unfold cm_X6_twoCome_3
    refine w_cs0 (tc_copy nH17 nH16 (by unfold nDj; omega) h2 h1 h5) ?_
    rintro y1 ⟨g1, g2⟩
    refine w_rdF g1.1 (w_wrF ?_)
    have e8 : nI (nt_copy Q R).1 + 2 = nI (R.1 + 2) := nI_add R.1 2
    rw [e8]
    have g1' : cAt (usF y1 17008 (nI (R.1 + 2))) 17000 (R.1 + 2, R.2.1, (nt_copy Q R).2.2) := ⟨po_usF_at, rf_ot (by omega) g1.2.1, g1.2.2.1, g1.2.2.2.1, g1.2.2.2.2⟩
    have fr1 : fr (cP 17000) y (usF y1 17008 (nI (R.1 + 2))) := fr_F2 g2 (by unfold cP; omega)
    have := c4 _ g1' fr1
    refine w_rdF ((fr1 16008 (by unfold cP; omega)).1.trans h1.1) (w_if (fun e => ?_) (fun e => ?_))
    · rw [show mv_s1 ch = 1 from if_pos (k3.mp e)] at this
      exact this
    · rw [show mv_s1 ch = -1 from if_neg (fun h9 => e (k3.mpr h9))] at this
      exact this
  -- what is wanted
  have c2 : ∀ a b : Nat, a = (if o = 2 * R.1 then 1 else 0) → b = (if u = 2 * R.1 + 1 then 1 else 0) → Tt (fun K t => c_X6_twoCome vl K t 2 (nI o) (nI u) (nI ch) (nI (2 * R.1)) (nI (2 * R.1 + 2)) 0 0 0 12000 (nI b) (nI a) 0 y) P0 := by
    intro a b ea eb
    have hnd : mv_nd R o u = a + b := by
      unfold mv_nd
      rw [ea, eb]
    have hab : a ≤ 1 ∧ b ≤ 1 := by
      rw [ea, eb]
      constructor <;> split <;> omega
    refine u_X6_twoCome_2 ?_; unfold cm_X6_twoCome_2
    rw [nI_add]
    refine w_rdF h1.2.1 (w_lt (by omega) (by omega) (fun e => no ?_) (fun e => ?_))
    · unfold mv_b3
      rw [decide_eq_false (by omega), Bool.false_and]
    · have hd1 : decide (mv_nd R o u ≤ R.2.1) = true := decide_eq_true (by omega)
      refine w_le (by omega) (by omega) (fun e2 => c3 _ ?_) (fun e2 => w_le (by omega) (by omega) (fun e3 => c3 _ ?_) (fun e3 => w_cs1 (tc_mayMeet h18 h16 (show o < 24 by omega) (show u < 24 by omega)) ?_))
      · unfold mv_b3
        rw [hd1, decide_eq_false (show ¬ o < 2 * R.1 by omega)]
        rfl
      · unfold mv_b3
        rw [hd1, decide_eq_false (show ¬ u < 2 * R.1 by omega), Bool.false_and, Bool.and_false]
        rfl
      · rintro r y1 ⟨q1, q2⟩
        dsimp only at q1 q2
        rw [q1, q2]
        have eb3 : mv_b3 R F P o u = mv_meet F P o u := by
          unfold mv_b3
          rw [hd1, decide_eq_true e2, decide_eq_true e3, Bool.true_and, Bool.true_and, Bool.true_and, Bool.not_not]
        exact w_if (fun q => no (eb3.trans (zI_e q))) (fun q => c3 _ (eb3.trans (zI_ne q)))
  have c1 : ∀ a : Nat, a = (if o = 2 * R.1 then 1 else 0) → Tt (fun K t => c_X6_twoCome vl K t 1 (nI o) (nI u) (nI ch) (nI (2 * R.1)) (nI (2 * R.1 + 2)) 0 0 0 12000 (nI a) 0 0 y) P0 := by
    intro a ea
    refine u_X6_twoCome_1 ?_; unfold cm_X6_twoCome_1
    rw [nI_1]
    refine w_eqN (by omega) (by omega) (fun e => c2 a 1 ea ?_) (fun e => c2 a 0 ea ?_)
    · rw [if_pos e]
    · rw [if_neg e]
  refine e_X6_twoCome ?_
  refine u_X6_twoCome_0 ?_; unfold cm_X6_twoCome_0
  refine w_rdF h1.1 ?_
  rw [show (2 : Int32) * nI R.1 = nI (2 * R.1) from pk_mul 2 _, show nI (2 * R.1) + 2 = nI (2 * R.1 + 2) from nI_add _ 2]
  refine w_eqN (by omega) (by omega) (fun e => c1 1 ?_) (fun e => c1 0 ?_)
  · rw [if_pos e]
  · rw [if_neg e]
theorem e_X6_countNumbers {vl : Nat → Nat} {r0 : Nat} {x1 : Int32} {z : ow_MS} {Q : (Int32 × ow_MS) → Prop} (H : Tt (fun K _ => cm_X6_countNumbers_0 vl K x1 r0 z) Q) : Te (fun K => ce_X6_countNumbers vl K r0 x1 z) Q := w_te0 H
theorem tc_countNumbers {kd : Nat} (h1 : y.1 16008 = nI R.1) (h5 : R.1 ≤ 12) (hk : kd < 5) : Te (fun K => ce_X6_countNumbers vl K 12000 (nI kd) y) (fun r => r.1 = nI (mv_cnt R.1 kd) ∧ r.2 = y) := by
  have hkd : kd = 0 ∨ kd = 1 ∨ kd = 2 ∨ kd = 3 ∨ kd = 4 := by omega
  refine e_X6_countNumbers ?_; unfold cm_X6_countNumbers_0
  rw [show (2 : Int32) = nI 2 from rfl]
  rcases hkd with rfl | rfl | rfl | rfl | rfl
  · exact w_rdF h1 (w_ifF (by decide) (w_ifT rfl (w_rdF h1 (w_some ⟨rfl, rfl⟩))))
  · refine w_rdF h1 (w_ifF (by decide) (w_ifF (by decide) (w_ifT rfl (w_rdF h1 ?_))))
    rw [nI_1, pk_mul, nI_1, show (4 : Int32) = nI 4 from rfl, pk_mul]
    refine w_le (b := 12) (by omega) (by omega) (fun e => w_some ⟨?_, rfl⟩) (fun e => w_some ⟨?_, rfl⟩)
    · show _ = nI (if R.1 + 1 ≤ 12 then (2 * R.1 + 1) * 4 else 0)
      rw [if_pos e]
    · show _ = nI (if R.1 + 1 ≤ 12 then (2 * R.1 + 1) * 4 else 0)
      rw [if_neg (by omega)]
      rfl
  · refine w_rdF h1 (w_ifF (by decide) (w_ifF (by decide) (w_ifF (by decide) (w_ifT rfl (w_rdF h1 (w_rdF h1 (w_some ⟨?_, rfl⟩)))))))
    exact pk_mul _ _
  · refine w_rdF h1 (w_ifF (by decide) (w_ifF (by decide) (w_ifF (by decide) (w_ifF (by decide) (w_ifT rfl (w_rdF h1 ?_))))))
    rw [pk_mul, nI_1, nI_add, nI_add, pk_mul, show (4 : Int32) = nI 4 from rfl, pk_mul]
    refine w_le (b := 12) (by omega) (by omega) (fun e => w_some ⟨?_, rfl⟩) (fun e => w_some ⟨?_, rfl⟩)
    · show _ = nI (if R.1 + 2 ≤ 12 then (2 * R.1 + 1) * (2 * R.1 + 2) * 4 else 0)
      rw [if_pos e]
    · show _ = nI (if R.1 + 2 ≤ 12 then (2 * R.1 + 1) * (2 * R.1 + 2) * 4 else 0)
      rw [if_neg (by omega)]
      rfl
  · refine w_rdF h1 (w_ifT (by decide) (w_some ⟨?_, rfl⟩))
    show nI 2 * (nI 2 * nI R.1) = nI (2 * (2 * R.1))
    rw [pk_mul, pk_mul]
theorem cnt_b {c kd : Nat} (hc : c ≤ 12) (hk : kd < 5) : mv_cnt c kd ≤ 1848 := by
  have hkd : kd = 0 ∨ kd = 1 ∨ kd = 2 ∨ kd = 3 ∨ kd = 4 := by omega
  have key : ∀ c : Fin 13, mv_cnt c.val 0 ≤ 1848 ∧ mv_cnt c.val 1 ≤ 1848 ∧ mv_cnt c.val 2 ≤ 1848 ∧ mv_cnt c.val 3 ≤ 1848 ∧ mv_cnt c.val 4 ≤ 1848 := by decide
  obtain ⟨a, b, d, e, f⟩ := key ⟨c, by omega⟩
  rcases hkd with rfl | rfl | rfl | rfl | rfl
  · exact a
  · exact b
  · exact d
  · exact e
  · exact f
theorem e_X6_make {vl : Nat → Nat} {r0 : Nat} {x1 : Int32} {x2 : Int32} {z : ow_MS} {Q : (Int32 × ow_MS) → Prop} (H : Tt (fun K _ => cm_X6_make_0 vl K x1 x2 r0 z) Q) : Te (fun K => ce_X6_make vl K r0 x1 x2 z) Q := w_te0 H
theorem tc_make {kd nb : Nat} {F P : Nat → Int32} (hS : mvS y R Q) (hv : vn R.1 R.2.2.1) (hk : kd < 5) (hn : nb < mv_cnt R.1 kd) (h18 : ∀ k, y.2.1 18001 k = F k) (h16 : ∀ k, y.2.1 16006 k = P k) : Te (fun K => ce_X6_make vl K 12000 (nI kd) (nI nb) y) (fun r => r.1 = zI (mv_B kd nb Q R F P) ∧ cAt r.2 17000 (mv_T kd nb Q R F P) ∧ fr mvP y r.2) := by
  have hkd : kd = 0 ∨ kd = 1 ∨ kd = 2 ∨ kd = 3 ∨ kd = 4 := by omega
  have h5 := hS.2.2.2.2.1
  have hb := cnt_b (c := R.1) h5 hk
  have sh2 : nI nb >>> ((2 : Int32) &&& 31) = nI (nb / 4) := pk_shrN (by omega) _ 2 (by decide)
  have an3 : nI nb &&& 3 = nI (nb % 4) := pk_andN (by omega) 2 (by decide)
  refine e_X6_make ?_; unfold cm_X6_make_0
  rcases hkd with rfl | rfl | rfl | rfl | rfl
  · refine w_ifF (by decide) (w_ifT rfl (w_cs1 (tc_oneGoes hS hn) ?_))
    rintro r y1 ⟨e1, e2, e3⟩
    dsimp only at e1 e2 e3
    rw [e1]
    exact w_okZ (zI_01 _) (w_some ⟨rfl, e2, cP_mvP e3⟩)
  · have h11 : R.1 + 1 ≤ 12 := by
      rcases Nat.lt_or_ge 12 (R.1 + 1) with q | q
      · have h9 : mv_cnt R.1 1 = 0 := if_neg (by omega)
        omega
      · exact q
    have hn' : nb < (2 * R.1 + 1) * 4 := by
      rw [show mv_cnt R.1 1 = (2 * R.1 + 1) * 4 from if_pos h11] at hn
      exact hn
    rw [sh2, an3]
    refine w_ifF (by decide) (w_ifF (by decide) (w_ifT rfl (w_cs1 (tc_oneComes hS h11 (show nb / 4 ≤ 2 * R.1 by omega) (show nb % 4 < 4 by omega)) ?_)))
    rintro r y1 ⟨e1, e2, e3⟩
    dsimp only at e1 e2 e3
    rw [e1]
    exact w_okZ (zI_01 _) (w_some ⟨rfl, e2, cP_mvP e3⟩)
  · have hn' : nb < R.1 * R.1 := hn
    have hpos : 0 < R.1 := by
      rcases Nat.eq_zero_or_pos R.1 with q | q
      · rw [q] at hn'
        omega
      · exact q
    have hd1 : nb / R.1 < R.1 := Nat.div_lt_of_lt_mul hn'
    have hd2 : nb % R.1 < R.1 := Nat.mod_lt _ hpos
    have hnz : nI R.1 ≠ 0 := fun h9 => by
      have := nI_inj9 (a := R.1) (b := 0) (by omega) (by omega) h9
      omega
    refine w_ifF (by decide) (w_ifF (by decide) (w_ifF (by decide) (w_ifT rfl (w_rdF hS.1.1 (w_leF (b := 0) (by omega) hpos (w_rdF hS.1.1 (w_nzI hnz (w_rdF hS.1.1 (w_nzI hnz ?_)))))))))
    rw [pk_rem (by omega) hpos (by omega), pk_div (by omega) hpos (by omega)]
    refine w_cs1 (tc_twoGo hS hd1 hd2) ?_
    rintro r y1 ⟨e1, e2, e3⟩
    dsimp only at e1 e2 e3
    rw [e1]
    refine w_if (fun q => w_okZ (Or.inl rfl) (w_some ⟨?_, e2, cP_mvP e3⟩)) (fun q => w_okZ (Or.inr rfl) (w_some ⟨?_, e2, cP_mvP e3⟩))
    · show (0 : Int32) = zI (mv_b2 R (nb / R.1) (nb % R.1))
      exact q.symm
    · show (1 : Int32) = zI (mv_b2 R (nb / R.1) (nb % R.1))
      rw [zI_ne q]
      rfl
  · have h10 : R.1 + 2 ≤ 12 := by
      rcases Nat.lt_or_ge 12 (R.1 + 2) with q | q
      · have h9 : mv_cnt R.1 3 = 0 := if_neg (by omega)
        omega
      · exact q
    have hn' : nb < (2 * R.1 + 1) * (2 * R.1 + 2) * 4 := by
      rw [show mv_cnt R.1 3 = (2 * R.1 + 1) * (2 * R.1 + 2) * 4 from if_pos h10] at hn
      exact hn
    have ho : nb / 4 / (2 * R.1 + 2) ≤ 2 * R.1 := by
      have : nb / 4 / (2 * R.1 + 2) < 2 * R.1 + 1 := Nat.div_lt_of_lt_mul (by rw [Nat.mul_comm]; omega)
      omega
    have hu : nb / 4 % (2 * R.1 + 2) < 2 * R.1 + 2 := Nat.mod_lt _ (by omega)
    have e2c : (2 : Int32) * nI R.1 + 2 = nI (2 * R.1 + 2) := by
      rw [show (2 : Int32) * nI R.1 = nI (2 * R.1) from pk_mul 2 _]
      exact nI_add _ 2
    have hnz : nI (2 * R.1 + 2) ≠ 0 := fun h9 => by
      have := nI_inj9 (a := 2 * R.1 + 2) (b := 0) (by omega) (by omega) h9
      omega
    refine w_ifF (by decide) (w_ifF (by decide) (w_ifF (by decide) (w_ifF (by decide) (w_ifT rfl (w_rdF hS.1.1 ?_)))))
    rw [e2c, sh2, an3, pk_rem (by omega) (by omega) (by omega), pk_div (by omega) (by omega) (by omega)]
    refine w_nzI hnz (w_nzI hnz (w_cs1 (tc_twoCome hS hv h10 ho (show nb / 4 % (2 * R.1 + 2) ≤ 2 * R.1 + 1 by omega) (show nb % 4 < 4 by omega) h18 h16) ?_))
    rintro r y1 ⟨e1, e2, e3⟩
    dsimp only at e1 e2 e3
    rw [e1]
    exact w_okZ (zI_01 _) (w_some ⟨rfl, e2, e3⟩)
  · have hn' : nb < 2 * (2 * R.1) := hn
    refine w_ifT (by decide) (w_cs1 (tc_threePass hS (show nb < 48 by omega)) ?_)
    rintro r y1 ⟨e1, e2, e3⟩
    dsimp only at e1 e2 e3
    rw [e1]
    exact w_okZ (zI_01 _) (w_some ⟨rfl, e2, cP_mvP e3⟩)
end CM2
end
