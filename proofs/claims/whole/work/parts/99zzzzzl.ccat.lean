/-! parts' rows one behind another: the class's row and the reference's row of one list of components -/
def shv (b : Nat) (p : Nat × Nat) : Nat × Nat := (p.1 + b, p.2)
theorem nm_sh {F : List (Nat × Nat)} {b : Nat} (hF : nm F = b) : ∀ G : List (Nat × Nat), nm (F ++ G.map (shv b)) = b + nm G := by
  refine snoc_ind ?_ (fun G p ih => ?_)
  · rw [List.map_nil, List.append_nil, hF]
    rfl
  · rw [List.map_append, ← List.append_assoc, List.map_cons, List.map_nil, nm_app, nm_app, ih]
    show (if p.1 + b < b + nm G then _ else p.1 + b + 1) = _
    by_cases h : p.1 < nm G
    · rw [if_pos (by omega), if_pos h]
    · rw [if_neg (by omega), if_neg h]
      omega
theorem fo_sh {F : List (Nat × Nat)} {b : Nat} (hF : nm F = b) (hf : fo F) : ∀ G : List (Nat × Nat), fo G → fo (F ++ G.map (shv b)) := by
  refine snoc_ind (fun _ => ?_) (fun G p ih h => ?_)
  · rw [List.map_nil, List.append_nil]
    exact hf
  · rw [List.map_append, ← List.append_assoc, List.map_cons, List.map_nil]
    refine fo_snoc (ih (fo_pre h)) ?_
    rw [nm_sh hF]
    have := fo_at h
    show p.1 + b ≤ _
    omega
/-- components in which each crossing has its two visits, named 0 .. b - 1 -/
def clD (D : rn_L) (b : Nat) : Prop := nm D.flatten = b ∧ D.flatten.length = 2 * b ∧ fo D.flatten
theorem shN_flv {b : Nat} (A : rn_L) : (shN b A).flatten = A.flatten.map (shv b) := shN_fl A
theorem clD_part {D B : rn_L} {b c : Nat} (hD : clD D b) (hB : gp B c) : clD (D ++ shN b B) (b + c) := by
  obtain ⟨h1, h2, h3⟩ := hD
  have hl := okF_len hB.1
  unfold clD
  rw [List.flatten_append, shN_flv]
  refine ⟨?_, ?_, fo_sh h1 h3 _ hB.2.1⟩
  · rw [nm_sh h1, hB.2.2.1]
  · rw [List.length_append, List.length_map]
    omega
theorem ucd_part {sg sgB : Nat → Bool} {D B R : rn_L} {b c : Nat} (hD : clD D b) (hB : gp B c) (hs : ∀ x, x < c → sg (x + b) = sgB x) : ∀ (d k : Nat), k + d = B.length → 0 < d → ucd sg b (D ++ shN b (B.take k)) (shN b (B.drop k) ++ R) = tk sgB (B.drop k) ++ ucd sg (b + c) (D ++ shN b B) R ∧ (bsO (b + c) (D ++ shN b B) R → bsO b (D ++ shN b (B.take k)) (shN b (B.drop k) ++ R)) := by
  intro d
  induction d with
  | zero => exact fun _ _ h => absurd h (Nat.lt_irrefl _)
  | succ d ih =>
    intro k hk _
    have hkl : k < B.length := by omega
    have hl := okF_len hB.1
    have e1 : B.drop k = B[k] :: B.drop (k + 1) := List.drop_eq_getElem_cons hkl
    have e2 : B.take (k + 1) = B.take k ++ [B[k]] := by
      rw [List.take_add_one, List.getElem?_eq_getElem hkl]
      rfl
    have e3 : shN b (B.drop k) = B[k].map (shv b) :: shN b (B.drop (k + 1)) := by
      rw [e1]
      rfl
    have e4 : D ++ shN b (B.take k) ++ [B[k].map (shv b)] = D ++ shN b (B.take (k + 1)) := by
      rw [e2, List.append_assoc]
      congr 1
      unfold shN
      rw [List.map_append]
      rfl
    have hmem : ∀ p, p ∈ B[k] → p ∈ B.flatten := fun p hp => List.mem_flatten.mpr ⟨B[k], List.getElem_mem hkl, hp⟩
    have e5 : (B[k].map (shv b)).map (clc sg b) = B[k].map (tkv sgB) := by
      rw [List.map_map]
      refine List.map_congr_left (fun p hp => ?_)
      have hp1 := (hB.1.2 p).mp (hmem p hp)
      show 4 * (p.1 + b - b + 1) + 2 * p.2 + (if sg (p.1 + b) = true then 1 else 0) = 4 * (p.1 + 1) + 2 * p.2 + if sgB p.1 = true then 1 else 0
      rw [hs p.1 hp1.1, Nat.add_sub_cancel]
    have hnm : nm (D ++ shN b (B.take (k + 1))).flatten = b + nm (B.take (k + 1)).flatten := by
      rw [List.flatten_append, shN_flv, nm_sh hD.1]
    have hln : (D ++ shN b (B.take (k + 1))).flatten.length = 2 * b + (B.take (k + 1)).flatten.length := by
      rw [List.flatten_append, shN_flv, List.length_append, List.length_map, hD.2.1]
    have hbs : ∀ p, p ∈ B[k].map (shv b) → b ≤ p.1 := by
      intro p hp
      obtain ⟨q, hq, e⟩ := List.mem_map.mp hp
      rw [← e]
      show b ≤ q.1 + b
      omega
    rw [e3, e1, tk_cons]
    show (B[k].map (shv b)).map (clc sg b) ++ 0 :: ucd sg (nxb b (D ++ shN b (B.take k) ++ [B[k].map (shv b)])) (D ++ shN b (B.take k) ++ [B[k].map (shv b)]) (shN b (B.drop (k + 1)) ++ R) = _ ∧ (_ → (∀ p, p ∈ B[k].map (shv b) → b ≤ p.1) ∧ bsO (nxb b (D ++ shN b (B.take k) ++ [B[k].map (shv b)])) (D ++ shN b (B.take k) ++ [B[k].map (shv b)]) (shN b (B.drop (k + 1)) ++ R))
    rw [e4, e5]
    by_cases hkd : k + 1 < B.length
    · have hnc := hB.2.2.2.2 (k + 1) (by omega) hkd
      have hx : nxb b (D ++ shN b (B.take (k + 1))) = b := by
        unfold nxb
        rw [hnm, hln, if_neg (by omega)]
      obtain ⟨i1, i2⟩ := ih (k + 1) (by omega) (by omega)
      rw [hx, i1]
      refine ⟨?_, fun h => ⟨hbs, i2 h⟩⟩
      rw [List.append_assoc]
      rfl
    · have etk : B.take (k + 1) = B := List.take_of_length_le (by omega)
      have edr : B.drop (k + 1) = [] := List.drop_of_length_le (by omega)
      have hx : nxb b (D ++ shN b (B.take (k + 1))) = b + c := by
        unfold nxb
        rw [hnm, hln, etk, hB.2.2.1, if_pos (by omega)]
      rw [hx, etk, edr]
      refine ⟨?_, fun h => ⟨hbs, h⟩⟩
      rw [List.append_assoc]
      rfl
/-- parts: components, signs, crossings -/
abbrev prt := rn_L × (Nat → Bool) × Nat
def catL : Nat → List prt → rn_L
  | _, [] => []
  | b, P :: Ps => shN b P.1 ++ catL (b + P.2.2) Ps
def catG : Nat → List prt → Nat → Bool
  | _, [] => fun _ => false
  | b, P :: Ps => fun x => if x < b + P.2.2 then P.2.1 (x - b) else catG (b + P.2.2) Ps x
def totC : List prt → Nat
  | [] => 0
  | P :: Ps => P.2.2 + totC Ps
def totL : List prt → Nat
  | [] => 0
  | P :: Ps => P.1.length + totL Ps
def rowP (Ps : List prt) : List (List Nat) := Ps.map (fun P => tk P.2.1 P.1)
theorem cat_len : ∀ (Ps : List prt) (b : Nat), (catL b Ps).length = totL Ps
  | [], _ => rfl
  | P :: Ps, b => by
    show (shN b P.1 ++ catL (b + P.2.2) Ps).length = P.1.length + totL Ps
    rw [List.length_append, cat_len Ps]
    unfold shN
    rw [List.length_map]
theorem cat_ok : ∀ (Ps : List prt) (b : Nat), (∀ P, P ∈ Ps → gp P.1 P.2.2) → okB (catL b Ps).flatten b (totC Ps)
  | [], b => fun _ => by
    refine ⟨List.nodup_nil, fun p => ⟨fun h => (by cases h), fun h => ?_⟩⟩
    have h3 : p.1 < b + 0 := h.2.1
    omega
  | P :: Ps, b => fun h => by
    have h1 := okF_sh (b := b) (h P List.mem_cons_self).1
    have h2 := cat_ok Ps (b + P.2.2) (fun Q hQ => h Q (List.mem_cons_of_mem _ hQ))
    show okB (shN b P.1 ++ catL (b + P.2.2) Ps).flatten b (P.2.2 + totC Ps)
    rw [List.flatten_append]
    exact okB_app h1 h2
theorem cat_all {sg : Nat → Bool} {R : rn_L} : ∀ (Ps : List prt) (D : rn_L) (b : Nat), (∀ P, P ∈ Ps → gp P.1 P.2.2) → clD D b → (∀ x, b ≤ x → x < b + totC Ps → sg x = catG b Ps x) → ucd sg b D (catL b Ps ++ R) = (rowP Ps).flatten ++ ucd sg (b + totC Ps) (D ++ catL b Ps) R ∧ (bsO (b + totC Ps) (D ++ catL b Ps) R → bsO b D (catL b Ps ++ R)) ∧ clD (D ++ catL b Ps) (b + totC Ps) ∧ tk sg (catL b Ps) = tk (catG b Ps) (catL b Ps)
  | [], D, b => fun _ hD _ => by
    show ucd sg b D ([] ++ R) = [] ++ ucd sg (b + 0) (D ++ []) R ∧ (bsO (b + 0) (D ++ []) R → bsO b D ([] ++ R)) ∧ clD (D ++ []) (b + 0) ∧ _
    rw [List.nil_append, List.nil_append, List.append_nil, Nat.add_zero]
    exact ⟨rfl, fun h => h, hD, rfl⟩
  | P :: Ps, D, b => fun h hD hs => by
    have hP := h P List.mem_cons_self
    have hs1 : ∀ x, x < P.2.2 → sg (x + b) = P.2.1 x := by
      intro x hx
      rw [hs (x + b) (by omega) (by show x + b < b + (P.2.2 + totC Ps); omega)]
      show (if x + b < b + P.2.2 then P.2.1 (x + b - b) else _) = _
      rw [if_pos (by omega), Nat.add_sub_cancel]
    have hs2 : ∀ x, b + P.2.2 ≤ x → x < b + P.2.2 + totC Ps → sg x = catG (b + P.2.2) Ps x := by
      intro x hx hx2
      rw [hs x (by omega) (by show x < b + (P.2.2 + totC Ps); omega)]
      show (if x < b + P.2.2 then P.2.1 (x - b) else _) = _
      rw [if_neg (by omega)]
    have hBl : 0 < P.1.length := List.length_pos_iff.mpr hP.2.2.2.1
    obtain ⟨u1, u2⟩ := ucd_part (R := catL (b + P.2.2) Ps ++ R) hD hP hs1 P.1.length 0 (by omega) hBl
    rw [show P.1.take 0 = [] from rfl, show shN b [] = [] from rfl, List.append_nil, List.drop_zero] at u1 u2
    have hD2 := clD_part hD hP
    obtain ⟨i1, i2, i3, i4⟩ := cat_all (sg := sg) (R := R) Ps (D ++ shN b P.1) (b + P.2.2) (fun Q hQ => h Q (List.mem_cons_of_mem _ hQ)) hD2 hs2
    have e1 : catL b (P :: Ps) ++ R = shN b P.1 ++ (catL (b + P.2.2) Ps ++ R) := by
      show shN b P.1 ++ catL (b + P.2.2) Ps ++ R = _
      rw [List.append_assoc]
    have e2 : D ++ catL b (P :: Ps) = D ++ shN b P.1 ++ catL (b + P.2.2) Ps := by
      show D ++ (shN b P.1 ++ catL (b + P.2.2) Ps) = _
      rw [List.append_assoc]
    have e3 : b + totC (P :: Ps) = b + P.2.2 + totC Ps := by
      show b + (P.2.2 + totC Ps) = _
      omega
    rw [e1, e2, e3]
    refine ⟨?_, fun h9 => u2 (i2 h9), i3, ?_⟩
    · rw [u1, i1, ← List.append_assoc]
      rfl
    · refine tk_congr _ (fun q hq => ?_)
      have := ((cat_ok (P :: Ps) b h).2 q).mp hq
      exact hs q.1 this.1 this.2.1
theorem ucd_cir {sg : Nat → Bool} : ∀ (q : Nat) (D : rn_L) (b : Nat), clD D b → ucd sg b D (List.replicate q []) = List.replicate q 0 ∧ bsO b D (List.replicate q [])
  | 0, _, _ => fun _ => ⟨rfl, trivial⟩
  | q + 1, D, b => fun hD => by
    have hD2 : clD (D ++ [[]]) b := by
      unfold clD
      rw [fl_app, List.append_nil]
      exact hD
    have hx : nxb b (D ++ [[]]) = b := by
      unfold nxb
      rw [hD2.1, ite_self]
    obtain ⟨i1, i2⟩ := ucd_cir (sg := sg) q (D ++ [[]]) b hD2
    rw [List.replicate_succ, List.replicate_succ]
    show [] ++ 0 :: ucd sg (nxb b (D ++ [[]])) (D ++ [[]]) (List.replicate q []) = _ ∧ (∀ p : Nat × Nat, p ∈ [] → b ≤ p.1) ∧ bsO (nxb b (D ++ [[]])) (D ++ [[]]) (List.replicate q [])
    rw [hx, i1]
    exact ⟨rfl, fun p hp => (by cases hp), i2⟩
theorem clD_nil : clD [] 0 := ⟨rfl, rfl, fun G p H e => by cases G <;> cases e⟩
/-- a net's list of components made of its parts' and circles -/
def catA (Ps : List prt) (q : Nat) : rn_L := catL 0 Ps ++ List.replicate q []
theorem catA_ok {Ps : List prt} {q : Nat} (h : ∀ P, P ∈ Ps → gp P.1 P.2.2) (h12 : totC Ps ≤ 12) (h6 : totL Ps + q ≤ 6) : okL (catA Ps q) (totC Ps) ∧ clC (catG 0 Ps) (catA Ps q) = (totC Ps, (rowP Ps).flatten ++ List.replicate q 0) ∧ tk (catG 0 Ps) (catA Ps q) = tk (catG 0 Ps) (catL 0 Ps) ++ List.replicate q 0 ∧ (catA Ps q).length = totL Ps + q := by
  obtain ⟨a1, a2, a3, a4⟩ := cat_all (sg := catG 0 Ps) (R := List.replicate q []) Ps [] 0 h clD_nil (fun _ _ _ => rfl)
  rw [List.nil_append, Nat.zero_add] at a1 a2 a3
  obtain ⟨c1, c2⟩ := ucd_cir (sg := catG 0 Ps) q (catL 0 Ps) (totC Ps) a3
  have hfl : (catA Ps q).flatten = (catL 0 Ps).flatten := by
    unfold catA
    rw [List.flatten_append, fl_nil, List.append_nil]
  have hob := cat_ok Ps 0 h
  rw [c1] at a1
  have hlen : (catA Ps q).length = totL Ps + q := by
    unfold catA
    rw [List.length_append, cat_len, List.length_replicate]
  refine ⟨⟨?_, ?_, a2 c2, h12, by omega⟩, ?_, ?_, hlen⟩
  · rw [hfl]
    refine ⟨hob.1, fun p => ?_⟩
    rw [hob.2 p]
    constructor
    · rintro ⟨h1, h2, h3⟩
      exact ⟨by omega, h3⟩
    · rintro ⟨h1, h2⟩
      exact ⟨Nat.zero_le _, by omega, h2⟩
  · rw [hfl]
    exact a3.2.2
  · unfold clC
    rw [hfl, a3.2.1]
    show (2 * totC Ps / 2, ucd (catG 0 Ps) 0 [] (catL 0 Ps ++ List.replicate q [])) = _
    rw [a1, show 2 * totC Ps / 2 = totC Ps by omega]
  · unfold catA
    rw [tk_app, tk_nil]
/-- what pack writes out of parts -/
theorem pkT_cat {R : List (Nat × List Nat)} : ∀ (ps : List Nat) (Ps : List prt) (b : Nat), ps.map (rAt R) = Ps.map (fun P => (2 * P.2.2, tk P.2.1 P.1)) → (∀ P, P ∈ Ps → gp P.1 P.2.2) → pkT R b ps = tk (catG b Ps) (catL b Ps)
  | [], [], _ => fun _ _ => rfl
  | [], P :: Ps, _ => fun e _ => by cases e
  | p :: ps, [], _ => fun e _ => by cases e
  | p :: ps, P :: Ps, b => fun e h => by
    rw [List.map_cons, List.map_cons] at e
    injection e with e1 e2
    have ih := pkT_cat (R := R) ps Ps (b + P.2.2) e2 (fun Q hQ => h Q (List.mem_cons_of_mem _ hQ))
    have hob := cat_ok Ps (b + P.2.2) (fun Q hQ => h Q (List.mem_cons_of_mem _ hQ))
    have hsh := okF_sh (b := b) (h P List.mem_cons_self).1
    show sft b (rAt R p).2 ++ pkT R (b + (rAt R p).1 / 2) ps = tk (catG b (P :: Ps)) (shN b P.1 ++ catL (b + P.2.2) Ps)
    rw [e1]
    show sft b (tk P.2.1 P.1) ++ pkT R (b + 2 * P.2.2 / 2) ps = _
    rw [show 2 * P.2.2 / 2 = P.2.2 by omega, ih, sft_tk, tk_app]
    congr 1
    · refine tk_congr _ (fun q hq => ?_)
      have := (hsh.2 q).mp hq
      show P.2.1 (q.1 - b) = if q.1 < b + P.2.2 then P.2.1 (q.1 - b) else _
      rw [if_pos this.2.1]
    · refine tk_congr _ (fun q hq => ?_)
      have := (hob.2 q).mp hq
      show catG (b + P.2.2) Ps q.1 = if q.1 < b + P.2.2 then P.2.1 (q.1 - b) else catG (b + P.2.2) Ps q.1
      rw [if_neg (by omega)]
