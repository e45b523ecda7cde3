section
/-! 99zzzzzzzzk.pnet -/
/-! nets as maps of darts: 2 v goes out of visit v, 2 v + 1 comes into it -/
def pn_al (S : ow_NP) (d : Nat) : Nat := if d % 2 = 0 then 2 * S.1 (d / 2) + 1 else 2 * S.2 (d / 2)
def pn_rt (b : Nat → Bool) (d : Nat) : Nat := if (decide (d % 2 = 1) == b (d / 2)) = true then 2 * mt (d / 2) else 2 * mt (d / 2) + 1
def pn_ph (S : ow_NP) (b : Nat → Bool) (d : Nat) : Nat := pn_rt b (pn_al S d)
def pn_E (S : ow_NP) (L : List Nat) : List (Nat × Nat) := L.map (fun v => (2 * v, 2 * S.1 v + 1))
def pn_fl (b : Nat → Bool) : Prop := ∀ v, b (mt v) = !b v
/-- at least k faces -/
def pn_F (c : Nat) (S : ow_NP) (b : Nat → Bool) (k : Nat) : Prop := ∃ (f : Nat → Nat) (X : List Nat), (∀ d, d < 4 * c → f (pn_ph S b d) = f d) ∧ (∀ x, x ∈ X → x < 4 * c) ∧ pm_dv f X ∧ k ≤ X.length
/-- every visit is reached from one of R -/
def pn_P (c : Nat) (S : ow_NP) (R : List Nat) : Prop := ∀ v, v < 2 * c → ∃ r, r ∈ R ∧ r < 2 * c ∧ rch c S r v
def pn_pl (c : Nat) (S : ow_NP) (b : Nat → Bool) : Prop := ∃ R, pn_P c S R ∧ pn_F c S b (c + 2 * R.length)
section PN
variable {c : Nat} {S : ow_NP} {b : Nat → Bool}
theorem pn_al_lt (hv : vn c S) {d : Nat} (h : d < 4 * c) : pn_al S d < 4 * c := by
  have := hv (d / 2) (by omega)
  unfold pn_al
  split <;> omega
theorem pn_al_inv (hv : vn c S) {d : Nat} (h : d < 4 * c) : pn_al S (pn_al S d) = d := by
  obtain ⟨h1, h2, h3, h4⟩ := hv (d / 2) (by omega)
  unfold pn_al
  by_cases e : d % 2 = 0
  · rw [if_pos e, if_neg (by omega), show (2 * S.1 (d / 2) + 1) / 2 = S.1 (d / 2) by omega, h3]
    omega
  · rw [if_neg e, if_pos (by omega), show 2 * S.2 (d / 2) / 2 = S.2 (d / 2) by omega, h4]
    omega
theorem pn_rt_h (d : Nat) : pn_rt b d / 2 = mt (d / 2) := by
  unfold pn_rt
  split <;> omega
theorem mt_h2 (v : Nat) : mt v / 2 = v / 2 := by
  unfold mt
  split <;> omega
theorem pn_rt_lt {d : Nat} (h : d < 4 * c) : pn_rt b d < 4 * c := by
  have h1 := pn_rt_h (b := b) d
  have h2 := mt_lt (q := d / 2) (c := c) (by omega)
  omega
theorem pn_ok (hv : vn c S) : ∀ {L : List Nat}, L.Nodup → (∀ v, v ∈ L → v < 2 * c) → pm_ok (4 * c) (pn_E S L)
  | [], _, _ => trivial
  | v :: L, hn, hl => by
    obtain ⟨n1, n2⟩ := List.nodup_cons.mp hn
    have hvl := hl v List.mem_cons_self
    have h1 := (hv v hvl).1
    refine ⟨by omega, by omega, by omega, fun p hp => ?_, pn_ok hv n2 (fun w hw => hl w (List.mem_cons_of_mem _ hw))⟩
    obtain ⟨w, hw, e⟩ := List.mem_map.mp hp
    have hwl := hl w (List.mem_cons_of_mem _ hw)
    have hne : w ≠ v := fun e9 => n1 (e9 ▸ hw)
    have hne2 : S.1 w ≠ S.1 v := fun e9 => hne (vn_inj hv hwl hvl e9)
    rw [← e]
    show 2 * w ≠ 2 * v ∧ 2 * S.1 w + 1 ≠ 2 * v ∧ 2 * w ≠ 2 * S.1 v + 1 ∧ 2 * S.1 w + 1 ≠ 2 * S.1 v + 1
    omega
theorem pn_al_E (hv : vn c S) {d : Nat} (hd : d < 4 * c) : ∀ {L : List Nat}, L.Nodup → (∀ v, v ∈ L → v < 2 * c) → (if d % 2 = 0 then d / 2 else S.2 (d / 2)) ∈ L → pm_al (pn_E S L) d = pn_al S d
  | [], _, _, h => by cases h
  | v :: L, hn, hl, h => by
    obtain ⟨n1, n2⟩ := List.nodup_cons.mp hn
    have hvl := hl v List.mem_cons_self
    obtain ⟨h1, h2, h3, h4⟩ := hv (d / 2) (by omega)
    obtain ⟨v1, v2, v3, v4⟩ := hv v hvl
    show (if d = 2 * v then 2 * S.1 v + 1 else if d = 2 * S.1 v + 1 then 2 * v else pm_al (pn_E S L) d) = _
    by_cases e1 : d = 2 * v
    · rw [if_pos e1]
      unfold pn_al
      rw [if_pos (by omega), show d / 2 = v by omega]
    · rw [if_neg e1]
      by_cases e2 : d = 2 * S.1 v + 1
      · rw [if_pos e2]
        unfold pn_al
        rw [if_neg (by omega), show d / 2 = S.1 v by omega, v3]
      · rw [if_neg e2]
        refine pn_al_E hv hd n2 (fun w hw => hl w (List.mem_cons_of_mem _ hw)) ?_
        rcases List.mem_cons.mp h with h9 | h9
        · exfalso
          by_cases e0 : d % 2 = 0
          · rw [if_pos e0] at h9
            omega
          · rw [if_neg e0] at h9
            rw [h9] at h4
            omega
        · exact h9
theorem pn_al_R (hv : vn c S) {d : Nat} (hd : d < 4 * c) : pm_al (pn_E S (List.range (2 * c))) d = pn_al S d := by
  refine pn_al_E hv hd List.nodup_range (fun v h => List.mem_range.mp h) (List.mem_range.mpr ?_)
  obtain ⟨h1, h2, h3, h4⟩ := hv (d / 2) (by omega)
  split <;> omega
theorem pn_four (hb : pn_fl b) {f : Nat → Nat} (hf : ∀ d, d < 4 * c → f (pn_rt b d) = f d) {d : Nat} (hd : d < 4 * c) : f d = f (4 * (d / 4)) := by
  have key : ∀ x, x < c → f (4 * x + 1) = f (4 * x) ∧ f (4 * x + 2) = f (4 * x) ∧ f (4 * x + 3) = f (4 * x) := by
    intro x hx
    have b2 := hb (2 * x)
    have m1 : mt (2 * x) = 2 * x + 1 := by unfold mt; rw [if_pos (by omega)]
    have m2 : mt (2 * x + 1) = 2 * x := by unfold mt; rw [if_neg (by omega)]; omega
    rw [m1] at b2
    have r0 := hf (4 * x) (by omega)
    have r1 := hf (4 * x + 1) (by omega)
    have r2 := hf (4 * x + 2) (by omega)
    have r3 := hf (4 * x + 3) (by omega)
    unfold pn_rt at r0 r1 r2 r3
    rw [show 4 * x / 2 = 2 * x by omega, show 4 * x % 2 = 0 by omega, m1] at r0
    rw [show (4 * x + 1) / 2 = 2 * x by omega, show (4 * x + 1) % 2 = 1 by omega, m1] at r1
    rw [show (4 * x + 2) / 2 = 2 * x + 1 by omega, show (4 * x + 2) % 2 = 0 by omega, m2, b2] at r2
    rw [show (4 * x + 3) / 2 = 2 * x + 1 by omega, show (4 * x + 3) % 2 = 1 by omega, m2, b2] at r3
    cases hbx : b (2 * x) with
    | true =>
      rw [hbx] at r0 r1 r2 r3
      rw [if_neg (by decide), show 2 * (2 * x + 1) + 1 = 4 * x + 3 by omega] at r0
      rw [if_pos (by decide), show 2 * (2 * x + 1) = 4 * x + 2 by omega] at r1
      rw [if_pos (by decide), show 2 * (2 * x) = 4 * x by omega] at r2
      exact ⟨r1.symm.trans r2.symm, r2.symm, r0⟩
    | false =>
      rw [hbx] at r0 r1 r2 r3
      rw [if_pos (by decide), show 2 * (2 * x + 1) = 4 * x + 2 by omega] at r0
      rw [if_neg (by decide), show 2 * (2 * x + 1) + 1 = 4 * x + 3 by omega] at r1
      rw [if_neg (by decide), show 2 * (2 * x) + 1 = 4 * x + 1 by omega] at r2
      rw [if_pos (by decide), show 2 * (2 * x) = 4 * x by omega] at r3
      exact ⟨r2.trans r0, r0, r3.symm⟩
  obtain ⟨k1, k2, k3⟩ := key (d / 4) (by omega)
  rcases (show d = 4 * (d / 4) ∨ d = 4 * (d / 4) + 1 ∨ d = 4 * (d / 4) + 2 ∨ d = 4 * (d / 4) + 3 by omega) with e | e | e | e
  · exact congrArg f e
  · exact (congrArg f e).trans k1
  · exact (congrArg f e).trans k2
  · exact (congrArg f e).trans k3
theorem pn_rs (hb : pn_fl b) : pm_rs (4 * c) c (pn_rt b) (fun d => d / 4) := by
  refine ⟨fun d h => pn_rt_lt h, fun d e hd he q => ?_, fun d _ => ?_, fun f hf X hX hv => ?_, (List.range c).map (fun x => 4 * x), fun x hx => ?_, pm_mk (nodup_map List.nodup_range (fun x y _ _ e => by omega)) (fun x y hx hy e => ?_), by rw [List.length_map, List.length_range]; exact Nat.le_refl _⟩
  · have e1 : pn_rt b d / 2 = pn_rt b e / 2 := by rw [q]
    rw [pn_rt_h, pn_rt_h] at e1
    have e2 : d / 2 = e / 2 := by rw [← mt_mt (d / 2), e1, mt_mt]
    unfold pn_rt at q
    rw [e2] at q
    have : decide (d % 2 = 1) = decide (e % 2 = 1) := by
      cases h1 : decide (d % 2 = 1) <;> cases h2 : decide (e % 2 = 1) <;> cases h3 : b (e / 2) <;> rw [h1, h2, h3] at q
      all_goals first
        | rfl
        | (exfalso; revert q; simp; done)
        | (exfalso; simp at q; omega)
    have := decide_eq_decide.mp this
    omega
  · show pn_rt b d / 4 = d / 4
    have h1 := pn_rt_h (b := b) d
    have h2 := mt_h2 (d / 2)
    omega
  · have := nodup_le (X.map f) ((List.range c).map (fun x => f (4 * x))) hv (fun a ha => by
      obtain ⟨x, hx, e⟩ := List.mem_map.mp ha
      have hx4 := hX x hx
      rw [← e, pn_four hb hf hx4]
      exact List.mem_map.mpr ⟨x / 4, List.mem_range.mpr (by omega), rfl⟩)
    rw [List.length_map, List.length_map, List.length_range] at this
    exact this
  · obtain ⟨y, hy, e⟩ := List.mem_map.mp hx
    have := List.mem_range.mp hy
    omega
  · obtain ⟨x', -, e1⟩ := List.mem_map.mp hx
    obtain ⟨y', -, e2⟩ := List.mem_map.mp hy
    omega
theorem pn_k0 (d : Nat) : d / 2 % 2 < 2 ∧ pn_rt b d / 2 % 2 = 1 - d / 2 % 2 := by
  refine ⟨by omega, ?_⟩
  rw [pn_rt_h]
  unfold mt
  split <;> omega
theorem pn_at0 (u : Nat) : pn_rt b (2 * u) = if b u = true then 2 * mt u + 1 else 2 * mt u := by
  unfold pn_rt
  rw [show 2 * u / 2 = u by omega, show 2 * u % 2 = 0 by omega]
  cases b u <;> rfl
theorem pn_at1 (u : Nat) : pn_rt b (2 * u + 1) = if b u = true then 2 * mt u else 2 * mt u + 1 := by
  unfold pn_rt
  rw [show (2 * u + 1) / 2 = u by omega, show (2 * u + 1) % 2 = 1 by omega]
  cases b u <;> rfl
theorem pn_sq (hb : pn_fl b) (u : Nat) : pn_rt b (pn_rt b (2 * u)) = 2 * u + 1 ∧ pn_rt b (pn_rt b (2 * u + 1)) = 2 * u := by
  have hm := hb u
  rw [pn_at0, pn_at1]
  cases e : b u with
  | true =>
    rw [e] at hm
    rw [if_pos rfl, if_pos rfl, pn_at1, pn_at0, hm, mt_mt]
    exact ⟨rfl, rfl⟩
  | false =>
    rw [e] at hm
    rw [if_neg (by decide), if_neg (by decide), pn_at1, pn_at0, hm, mt_mt]
    exact ⟨rfl, rfl⟩
theorem pn_al0 (u : Nat) : pn_al S (2 * u) = 2 * S.1 u + 1 := by
  unfold pn_al
  rw [if_pos (by omega), show 2 * u / 2 = u by omega]
theorem pn_al1 (u : Nat) : pn_al S (2 * u + 1) = 2 * S.2 u := by
  unfold pn_al
  rw [if_neg (by omega), show (2 * u + 1) / 2 = u by omega]
/-- what is reached by darts: both darts of each visit that is reached -/
theorem pn_cn (hv : vn c S) (hb : pn_fl b) {al : Nat → Nat} (ha : ∀ d, d < 4 * c → al d = pn_al S d) {r v : Nat} (h0 : r < 2 * c) (h : rch c S r v) : pm_cn (4 * c) (pn_rt b) al (2 * r) (2 * v) ∧ pm_cn (4 * c) (pn_rt b) al (2 * r) (2 * v + 1) := by
  refine (h (fun u => u < 2 * c ∧ pm_cn (4 * c) (pn_rt b) al (2 * r) (2 * u) ∧ pm_cn (4 * c) (pn_rt b) al (2 * r) (2 * u + 1)) ⟨h0, cn_rf _, ?_⟩ (fun u hu hp => ?_) (fun u hu hp => ?_)).2
  · have := cn_r (n := 4 * c) (al := al) (pn_rt_lt (b := b) (show 2 * r < 4 * c by omega)) (cn_r (show 2 * r < 4 * c by omega) (cn_rf (2 * r)))
    rw [(pn_sq hb r).1] at this
    exact this
  · obtain ⟨-, p1, p2⟩ := hp
    have hn := (hv u hu).1
    have q1 := cn_a (show 2 * u < 4 * c by omega) p1
    rw [ha _ (by omega), pn_al0] at q1
    refine ⟨hn, ?_, q1⟩
    have := cn_r (pn_rt_lt (b := b) (show 2 * S.1 u + 1 < 4 * c by omega)) (cn_r (show 2 * S.1 u + 1 < 4 * c by omega) q1)
    rw [(pn_sq hb _).2] at this
    exact this
  · obtain ⟨-, p1, p2⟩ := hp
    have q1 := cn_r (show 2 * u < 4 * c by omega) p1
    have q2 := cn_r (show 2 * u + 1 < 4 * c by omega) p2
    rw [pn_at0] at q1
    rw [pn_at1] at q2
    refine ⟨mt_lt hu, ?_⟩
    cases e : b u with
    | true =>
      rw [e, if_pos rfl] at q1 q2
      exact ⟨q2, q1⟩
    | false =>
      rw [e, if_neg (by decide)] at q1 q2
      exact ⟨q1, q2⟩
theorem pn_cv (hv : vn c S) (hb : pn_fl b) {al : Nat → Nat} (ha : ∀ d, d < 4 * c → al d = pn_al S d) {R : List Nat} (hR : pn_P c S R) : pm_cv (4 * c) (pn_rt b) al (R.map (fun r => 2 * r)) := by
  intro d hd
  obtain ⟨r, r1, r2, r3⟩ := hR (d / 2) (by omega)
  obtain ⟨k1, k2⟩ := pn_cn hv hb ha r2 r3
  refine ⟨2 * r, List.mem_map.mpr ⟨r, r1, rfl⟩, by omega, ?_⟩
  by_cases e : d % 2 = 0
  · rw [show 2 * (d / 2) = d by omega] at k1
    exact k1
  · rw [show 2 * (d / 2) + 1 = d by omega] at k2
    exact k2
theorem pn_eul (hv : vn c S) (hb : pn_fl b) {R : List Nat} {k : Nat} (hR : pn_P c S R) (hF : pn_F c S b k) : k ≤ c + 2 * R.length := by
  obtain ⟨f, X, f1, f2, f3, f4⟩ := hF
  have hal : ∀ d, d < 4 * c → pm_al (pn_E S (List.range (2 * c))) d = pn_al S d := fun d hd => pn_al_R hv hd
  have := pm_euler (pn_rs (c := c) hb) (pn_ok hv List.nodup_range (fun v h => List.mem_range.mp h)) (pn_cv hv hb hal hR) (f := f) (fun d hd => by rw [hal d hd]; exact f1 d hd) f2 f3
  unfold pn_E at this
  rw [List.length_map, List.length_map, List.length_range] at this
  omega
/-- a plane net has two kinds of visits -/
theorem pn_kap (hv : vn c S) (hb : pn_fl b) (hp : pn_pl c S b) : ∃ κ : Nat → Bool, ∀ d, d < 4 * c → κ (pn_rt b d) = !κ d ∧ κ (pn_al S d) = !κ d := by
  obtain ⟨R, hR, f, X, f1, f2, f3, f4⟩ := hp
  have hal : ∀ d, d < 4 * c → pm_al (pn_E S (List.range (2 * c))) d = pn_al S d := fun d hd => pn_al_R hv hd
  obtain ⟨κ, hκ⟩ := pm_two (k0 := fun d => d / 2 % 2) (pn_rs (c := c) hb) (fun d _ => pn_k0 d) (pn_ok hv List.nodup_range (fun v h => List.mem_range.mp h)) (fun d hd e => by
    rw [hal d hd] at e
    unfold pn_al at e
    split at e <;> omega) (pn_cv hv hb hal hR) (f := f) (fun d hd => by rw [hal d hd]; exact f1 d hd) f2 f3 (by
    unfold pn_E
    rw [List.length_map, List.length_map, List.length_range]
    omega)
  exact ⟨κ, fun d hd => ⟨(hκ d hd).1, by rw [← hal d hd]; exact (hκ d hd).2⟩⟩
theorem pn_ga (hv : vn c S) (hb : pn_fl b) (hp : pn_pl c S b) : ∃ w, gaO c S w := by
  obtain ⟨κ, hκ⟩ := pn_kap hv hb hp
  have io : ∀ u, u < 2 * c → κ (2 * u + 1) = κ (2 * u) := fun u hu => by
    have h1 := (hκ (2 * u) (by omega)).1
    have h2 := (hκ _ (pn_rt_lt (b := b) (show 2 * u < 4 * c by omega))).1
    rw [(pn_sq hb u).1, h1, Bool.not_not] at h2
    exact h2
  refine ⟨fun v => κ (2 * v), fun v hvl => ⟨?_, ?_⟩⟩
  · have h1 := (hκ (2 * v) (by omega)).2
    rw [pn_al0, io _ (hv v hvl).1] at h1
    exact h1
  · have h1 := (hκ (2 * v) (by omega)).1
    rw [pn_at0] at h1
    have h2 := io _ (mt_lt hvl)
    split at h1
    · rw [h2] at h1
      exact h1
    · exact h1
end PN
end
section
/-! 99zzzzzzzzl.plnk -/
/-! marks of rounds are kept along rounds; planeness as the class counts it -/
section MRC
variable {N : Nat → Nat} {vs : Nat}
theorem itf_per (hN : ∀ a, a < vs → N a < vs) (hi : ∀ a b, a < vs → b < vs → N a = N b → a = b) {v : Nat} (hv : v < vs) : ∃ m, 1 ≤ m ∧ m ≤ vs ∧ itf N m v = v ∧ ∀ i j, i < m → j < m → itf N i v = itf N j v → i = j := by
  have hlt : ∀ k, itf N k v < vs := fun k => itf_in (D := fun s => s < vs) hN hv k
  -- the least way back
  have ex : ∃ k, itf N (k + 1) v = v := itf_back (f := N) (D := fun s => s < vs) (N := vs) (fun s hs => hs) hN (fun s t hs ht => hi s t hs ht) hv
  obtain ⟨k0, hk0⟩ := ex
  have least : ∀ n, (∃ k, k < n ∧ itf N (k + 1) v = v) → ∃ k, itf N (k + 1) v = v ∧ ∀ j, j < k → itf N (j + 1) v ≠ v := by
    intro n
    induction n with
    | zero => rintro ⟨k, h, -⟩; omega
    | succ n ih =>
      rintro ⟨k, h1, h2⟩
      by_cases h : ∃ j, j < n ∧ itf N (j + 1) v = v
      · exact ih h
      · exact ⟨k, h2, fun j hj e => h ⟨j, by omega, e⟩⟩
  obtain ⟨k, k1, k2⟩ := least (k0 + 1) ⟨k0, by omega, hk0⟩
  have dist : ∀ i j, i < k + 1 → j < k + 1 → itf N i v = itf N j v → i = j := by
    have one : ∀ i j, i < j → j < k + 1 → itf N i v ≠ itf N j v := fun i j hij hj e => by
      have := itf_sub (f := N) (D := fun s => s < vs) hN (fun s t hs ht => hi s t hs ht) hv i (j - i) (by rw [show i + (j - i) = j by omega]; exact e)
      exact k2 (j - i - 1) (by omega) (by rw [show j - i - 1 + 1 = j - i by omega]; exact this)
    intro i j hi9 hj9 e
    rcases Nat.lt_trichotomy i j with h | h | h
    · exact absurd e (one i j h hj9)
    · exact h
    · exact absurd e.symm (one j i h hi9)
  refine ⟨k + 1, by omega, ?_, k1, dist⟩
  have := nodup_le ((List.range (k + 1)).map (fun i => itf N i v)) (List.range vs) (nodup_map List.nodup_range (fun i j hi9 hj9 e => dist i j (List.mem_range.mp hi9) (List.mem_range.mp hj9) e)) (fun a ha => by
    obtain ⟨i, -, e⟩ := List.mem_map.mp ha
    rw [← e]
    exact List.mem_range.mpr (hlt i))
  rw [List.length_map, List.length_range, List.length_range] at this
  exact this
def mrC (N : Nat → Nat) (vs : Nat) (F : Nat → Int32) : Prop := ∀ k, k < vs → F (N k) = F k
theorem mr_in_orb {x : Int32} (hx : x ≠ -1) (hN : ∀ a, a < vs → N a < vs) {F0 : Nat → Int32} (hF0 : mrC N vs F0) {v m : Nat} (hv : v < vs) (h0 : F0 v = -1) (hm1 : 1 ≤ m) (hm : itf N m v = v) (hd : ∀ i j, i < m → j < m → itf N i v = itf N j v → i = j) : ∀ (d j : Nat) (F : Nat → Int32), j ≤ m → m ≤ d + j → (∀ k, (∃ i, i < j ∧ k = itf N i v) → F k = x) → (∀ k, ¬ (∃ i, i < j ∧ k = itf N i v) → F k = F0 k) → (∀ k, (∃ i, i < m ∧ k = itf N i v) → mr_in N x d F (itf N j v) k = x) ∧ (∀ k, ¬ (∃ i, i < m ∧ k = itf N i v) → mr_in N x d F (itf N j v) k = F0 k) := by
  have hlt : ∀ k, itf N k v < vs := fun k => itf_in (D := fun s => s < vs) hN hv k
  have hall : ∀ i, F0 (itf N i v) = -1 := by
    intro i
    induction i with
    | zero => exact h0
    | succ i ih => exact (hF0 _ (hlt i)).trans ih
  intro d
  induction d with
  | zero =>
    intro j F hj hd1 h1 h2
    have : j = m := by omega
    subst this
    exact ⟨h1, h2⟩
  | succ d ih =>
    intro j F hj hd1 h1 h2
    show (∀ k, _ → (if F (itf N j v) = -1 then mr_in N x d (su F (itf N j v) x) (N (itf N j v)) else F) k = x) ∧ (∀ k, _ → (if F (itf N j v) = -1 then mr_in N x d (su F (itf N j v) x) (N (itf N j v)) else F) k = F0 k)
    by_cases e : j = m
    · subst e
      have e1 : F (itf N j v) = x := h1 _ ⟨0, by omega, hm⟩
      rw [if_neg (by rw [e1]; exact hx)]
      exact ⟨h1, h2⟩
    · have e1 : F (itf N j v) = -1 := by
        rw [h2 _ (fun ⟨i, i1, i2⟩ => by have := hd j i (by omega) (by omega) i2; omega)]
        exact hall j
      rw [if_pos e1]
      refine ih (j + 1) _ (by omega) (by omega) (fun k hk => ?_) (fun k hk => ?_)
      · by_cases ek : k = itf N j v
        · rw [ek]
          exact if_pos rfl
        · obtain ⟨i, i1, i2⟩ := hk
          have : i ≠ j := fun h9 => ek (by rw [← h9]; exact i2)
          exact (if_neg ek).trans (h1 k ⟨i, by omega, i2⟩)
      · have ek : k ≠ itf N j v := fun h9 => hk ⟨j, by omega, h9⟩
        exact (if_neg ek).trans (h2 k (fun ⟨i, i1, i2⟩ => hk ⟨i, by omega, i2⟩))
theorem mr_out_C (hN : ∀ a, a < vs → N a < vs) (hi : ∀ a b, a < vs → b < vs → N a = N b → a = b) (hvs : vs ≤ 48) {F : Nat → Int32} (hF : mrC N vs F) : ∀ n, n ≤ vs → mrC N vs (mr_out N vs F n).1
  | 0, _ => hF
  | n + 1, hn => by
    have ih := mr_out_C hN hi hvs hF n (by omega)
    have hle := mr_out_le N vs F n
    show mrC N vs (if (mr_out N vs F n).1 n = -1 then (mr_in N (nI (mr_out N vs F n).2) vs (mr_out N vs F n).1 n, (mr_out N vs F n).2 + 1) else mr_out N vs F n).1
    by_cases h : (mr_out N vs F n).1 n = -1
    · rw [if_pos h]
      obtain ⟨m, m1, m2, m3, m4⟩ := itf_per hN hi (show n < vs by omega)
      obtain ⟨r1, r2⟩ := mr_in_orb (x := nI (mr_out N vs F n).2) (rn_neg1 (by omega)) hN ih (show n < vs by omega) h m1 m3 m4 vs 0 _ (by omega) (by omega) (fun k hk => by obtain ⟨i, i1, -⟩ := hk; omega) (fun k _ => rfl)
      have r1 : ∀ k, (∃ i, i < m ∧ k = itf N i n) → mr_in N (nI (mr_out N vs F n).2) vs (mr_out N vs F n).1 n k = nI (mr_out N vs F n).2 := r1
      have r2 : ∀ k, ¬ (∃ i, i < m ∧ k = itf N i n) → mr_in N (nI (mr_out N vs F n).2) vs (mr_out N vs F n).1 n k = (mr_out N vs F n).1 k := r2
      intro k hk
      show mr_in N (nI (mr_out N vs F n).2) vs (mr_out N vs F n).1 n (N k) = mr_in N (nI (mr_out N vs F n).2) vs (mr_out N vs F n).1 n k
      by_cases ek : ∃ i, i < m ∧ k = itf N i n
      · rw [r1 k ek]
        obtain ⟨i, i1, i2⟩ := ek
        refine r1 _ ?_
        by_cases e9 : i + 1 = m
        · refine ⟨0, by omega, ?_⟩
          rw [i2]
          show itf N (i + 1) n = n
          rw [e9]
          exact m3
        · exact ⟨i + 1, by omega, by rw [i2]; rfl⟩
      · rw [r2 k ek, r2 (N k) (fun ⟨i, i1, i2⟩ => ek ?_)]
        · exact ih k hk
        · rcases Nat.eq_zero_or_pos i with h0 | h0
          · refine ⟨m - 1, by omega, hi _ _ hk (itf_in (D := fun s => s < vs) hN (by omega) _) ?_⟩
            rw [i2, h0]
            show n = itf N (m - 1 + 1) n
            rw [show m - 1 + 1 = m by omega]
            exact m3.symm
          · refine ⟨i - 1, by omega, hi _ _ hk (itf_in (D := fun s => s < vs) hN (by omega) _) ?_⟩
            rw [i2]
            show itf N i n = itf N (i - 1 + 1) n
            rw [show i - 1 + 1 = i by omega]
    · rw [if_neg h]
      exact ih
end MRC
/-! sides of the class and darts -/
def stG (G : Nat → Int32) (v : Nat) : Bool := decide (v % 2 = 0) == decide (0 < G (v / 2))
def sdD (S : ow_NP) (s : Nat) : Nat := if s % 2 = 0 then s else 2 * S.1 (s / 2) + 1
def dSd (S : ow_NP) (d : Nat) : Nat := if d % 2 = 0 then d else 2 * S.2 (d / 2) + 1
section PLK
variable {c : Nat} {S : ow_NP} {G : Nat → Int32}
theorem stG_fl : pn_fl (stG G) := by
  intro v
  unfold stG
  rw [mt_h2]
  have : decide (mt v % 2 = 0) = !decide (v % 2 = 0) := by
    unfold mt
    by_cases e : v % 2 = 0
    · rw [if_pos e, decide_eq_true e, decide_eq_false (by omega)]
      rfl
    · rw [if_neg e, decide_eq_false e, decide_eq_true (by omega)]
      rfl
  rw [this]
  cases decide (v % 2 = 0) <;> cases decide (0 < G (v / 2)) <;> rfl
theorem sd_on (hv : vn c S) {s : Nat} (hs : s < 4 * c) : sdD S (fc_on S G s) = pn_ph S (stG G) (sdD S s) := by
  have e0 : fc_on S G s = if (stG G (fc_end S.1 s) == decide (s % 2 = 0)) = true then 2 * mt (fc_end S.1 s) else 2 * S.2 (mt (fc_end S.1 s)) + 1 := rfl
  have he : fc_end S.1 s < 2 * c := by
    have := (hv (s / 2) (by omega)).1
    unfold fc_end
    split <;> omega
  have ea : pn_al S (sdD S s) = if s % 2 = 0 then 2 * fc_end S.1 s + 1 else 2 * fc_end S.1 s := by
    unfold sdD fc_end
    by_cases e : s % 2 = 0
    · rw [if_pos e, if_pos e, if_pos e]
      unfold pn_al
      rw [if_pos e]
    · rw [if_neg e, if_neg e, if_neg e, pn_al1, (hv (s / 2) (by omega)).2.2.1]
  have em := (hv _ (mt_lt he)).2.2.2
  rw [e0]
  unfold pn_ph
  rw [ea]
  generalize fc_end S.1 s = e at *
  by_cases es : s % 2 = 0
  · rw [if_pos es, pn_at1, decide_eq_true es]
    cases hq : stG G e with
    | true =>
      rw [if_pos (by rfl), if_pos rfl]
      exact if_pos (by omega)
    | false =>
      rw [if_neg (by decide), if_neg (by decide)]
      unfold sdD
      rw [if_neg (by omega), show (2 * S.2 (mt e) + 1) / 2 = S.2 (mt e) by omega, em]
  · rw [if_neg es, pn_at0, decide_eq_false es]
    cases hq : stG G e with
    | true =>
      rw [if_neg (by decide), if_pos rfl]
      unfold sdD
      rw [if_neg (by omega), show (2 * S.2 (mt e) + 1) / 2 = S.2 (mt e) by omega, em]
    | false =>
      rw [if_pos (by rfl), if_neg (by decide)]
      exact if_pos (by omega)
theorem sdD_lt (hv : vn c S) {s : Nat} (hs : s < 4 * c) : sdD S s < 4 * c := by
  have := (hv (s / 2) (by omega)).1
  unfold sdD
  split <;> omega
theorem dSd_lt (hv : vn c S) {s : Nat} (hs : s < 4 * c) : dSd S s < 4 * c := by
  have := (hv (s / 2) (by omega)).2.1
  unfold dSd
  split <;> omega
theorem sd_ds (hv : vn c S) {s : Nat} (hs : s < 4 * c) : sdD S (dSd S s) = s := by
  have := (hv (s / 2) (by omega)).2.2.2
  unfold dSd sdD
  by_cases e : s % 2 = 0
  · rw [if_pos e, if_pos e]
  · rw [if_neg e, if_neg (by omega), show (2 * S.2 (s / 2) + 1) / 2 = S.2 (s / 2) by omega, this]
    omega
theorem ds_sd (hv : vn c S) {s : Nat} (hs : s < 4 * c) : dSd S (sdD S s) = s := by
  have := (hv (s / 2) (by omega)).2.2.1
  unfold dSd sdD
  by_cases e : s % 2 = 0
  · rw [if_pos e, if_pos e]
  · rw [if_neg e, if_neg (by omega), show (2 * S.1 (s / 2) + 1) / 2 = S.1 (s / 2) by omega, this]
    omega
theorem pn_ph_lt {b : Nat → Bool} (hv : vn c S) {d : Nat} (h : d < 4 * c) : pn_ph S b d < 4 * c := pn_rt_lt (pn_al_lt hv h)
theorem pn_ph_inj {b : Nat → Bool} (hv : vn c S) (hb : pn_fl b) {d e : Nat} (h : d < 4 * c) (h2 : e < 4 * c) (q : pn_ph S b d = pn_ph S b e) : d = e := by
  have := (pn_rs (c := c) hb).2.1 _ _ (pn_al_lt hv h) (pn_al_lt hv h2) q
  rw [← pn_al_inv hv h, this, pn_al_inv hv h2]
theorem fc_on_inj (hv : vn c S) {s t : Nat} (hs : s < 4 * c) (ht : t < 4 * c) (q : fc_on S G s = fc_on S G t) : s = t := by
  have h1 := congrArg (sdD S) q
  rw [sd_on hv hs, sd_on hv ht] at h1
  have := pn_ph_inj hv stG_fl (sdD_lt hv hs) (sdD_lt hv ht) h1
  rw [← ds_sd hv hs, this, ds_sd hv ht]
/-- faces as the class counts them -/
theorem faces_ge (hv : vn c S) (hc : c ≤ 12) : pn_F c S (stG G) (np_faces c S G).2 := by
  have h1 := mr_out_k (κ := fun _ => ()) (N := fc_on S G) (vs := 4 * c) (fun a ha => ⟨fc_on_vn hv G ha, rfl⟩) (F := fun _ => -1) (fun _ _ => rfl) (by omega) (4 * c) (Nat.le_refl _)
  have h2 := mr_out_C (N := fc_on S G) (vs := 4 * c) (fun a ha => fc_on_vn hv G ha) (fun a b ha hb e => fc_on_inj hv ha hb e) (by omega) (F := fun _ => -1) (fun _ _ => rfl) (4 * c) (Nat.le_refl _)
  have e0 : mr_out (fc_on S G) (4 * c) (fun _ => -1) (4 * c) = np_faces c S G := rfl
  rw [e0] at h1 h2
  obtain ⟨i1, i2, i3, i4, -⟩ := h1
  generalize np_faces c S G = R at *
  obtain ⟨L, m⟩ := R
  dsimp only at i1 i2 i3 i4 h2 ⊢
  have lab : ∀ s, s < 4 * c → ∃ r, r < m ∧ L s = nI r := fun s hs => (i2 s hs).resolve_left (i3 s hs)
  -- a side for each mark
  have reps : ∀ n, n ≤ m → ∃ X : List Nat, X.length = n ∧ (∀ x, x ∈ X → x < 4 * c ∧ ∃ r, r < n ∧ L x = nI r) ∧ pm_dv (fun s => (L s).toInt.toNat) X := by
    intro n
    induction n with
    | zero => exact fun _ => ⟨[], rfl, fun x hx => absurd hx List.not_mem_nil, List.nodup_nil⟩
    | succ n ih =>
      intro hn
      obtain ⟨X, x1, x2, x3⟩ := ih (by omega)
      obtain ⟨k, k1, k2⟩ := i4 n (by omega)
      refine ⟨k :: X, by rw [List.length_cons, x1], fun x hx => ?_, ?_⟩
      · rcases List.mem_cons.mp hx with h9 | h9
        · rw [h9]
          exact ⟨k1, n, by omega, k2⟩
        · obtain ⟨q1, r, q2, q3⟩ := x2 x h9
          exact ⟨q1, r, by omega, q3⟩
      · refine List.nodup_cons.mpr ⟨fun h9 => ?_, x3⟩
        obtain ⟨x, hx, e⟩ := List.mem_map.mp h9
        obtain ⟨-, r, q2, q3⟩ := x2 x hx
        have e : (L x).toInt.toNat = (L k).toInt.toNat := e
        rw [k2, q3, nI_toInt (by omega), nI_toInt (by omega)] at e
        omega
  obtain ⟨X, x1, x2, x3⟩ := reps m (Nat.le_refl _)
  refine ⟨fun d => (L (dSd S d)).toInt.toNat, X.map (sdD S), fun d hd => ?_, fun x hx => ?_, ?_, ?_⟩
  · show (L (dSd S (pn_ph S (stG G) d))).toInt.toNat = (L (dSd S d)).toInt.toNat
    have e1 := h2 (dSd S d) (dSd_lt hv hd)
    rw [← e1]
    congr 3
    have e2 := sd_on (G := G) hv (dSd_lt hv hd)
    rw [sd_ds hv hd] at e2
    rw [← e2, ds_sd hv (fc_on_vn hv G (dSd_lt hv hd))]
  · obtain ⟨s, hs, e⟩ := List.mem_map.mp hx
    rw [← e]
    exact sdD_lt hv (x2 s hs).1
  · unfold pm_dv
    rw [List.map_map]
    have : X.map ((fun d => (L (dSd S d)).toInt.toNat) ∘ sdD S) = X.map (fun s => (L s).toInt.toNat) := List.map_congr_left (fun s hs => by
      show (L (dSd S (sdD S s))).toInt.toNat = _
      rw [ds_sd hv (x2 s hs).1])
    rw [this]
    exact x3
  · rw [List.length_map, x1]
    exact Nat.le_refl _
theorem faces_le (hv : vn c S) (hc : c ≤ 12) {k : Nat} (h : pn_F c S (stG G) k) : k ≤ (np_faces c S G).2 := by
  obtain ⟨f, X, f1, f2, f3, f4⟩ := h
  have h1 := mr_out_k (κ := fun s => f (sdD S s)) (N := fc_on S G) (vs := 4 * c) (fun a ha => ⟨fc_on_vn hv G ha, by
    show f (sdD S (fc_on S G a)) = f (sdD S a)
    rw [sd_on hv ha]
    exact f1 _ (sdD_lt hv ha)⟩) (F := fun _ => -1) (fun _ _ => rfl) (by omega) (4 * c) (Nat.le_refl _)
  have e0 : mr_out (fc_on S G) (4 * c) (fun _ => -1) (4 * c) = np_faces c S G := rfl
  rw [e0] at h1
  obtain ⟨i1, i2, i3, i4, i5⟩ := h1
  generalize np_faces c S G = R at *
  obtain ⟨L, m⟩ := R
  dsimp only at i1 i2 i3 i4 i5 ⊢
  have lab : ∀ s, s < 4 * c → ∃ r, r < m ∧ L s = nI r := fun s hs => (i2 s hs).resolve_left (i3 s hs)
  have := nodup_le (X.map (fun d => (L (dSd S d)).toInt.toNat)) (List.range m) (nodup_map (pm_nd f3) (fun x y hx hy e => by
    obtain ⟨r, r1, r2⟩ := lab _ (dSd_lt hv (f2 x hx))
    obtain ⟨q, q1, q2⟩ := lab _ (dSd_lt hv (f2 y hy))
    rw [r2, q2, nI_toInt (by omega), nI_toInt (by omega)] at e
    have e9 : r = q := by omega
    have := i5 _ _ (dSd_lt hv (f2 x hx)) (dSd_lt hv (f2 y hy)) (i3 _ (dSd_lt hv (f2 x hx))) (by rw [r2, q2, e9])
    rw [sd_ds hv (f2 x hx), sd_ds hv (f2 y hy)] at this
    exact pm_inj f3 x y hx hy this)) (fun a ha => by
    obtain ⟨x, hx, e⟩ := List.mem_map.mp ha
    obtain ⟨r, r1, r2⟩ := lab _ (dSd_lt hv (f2 x hx))
    rw [← e, r2, nI_toInt (by omega)]
    exact List.mem_range.mpr (by omega))
  rw [List.length_map, List.length_range] at this
  omega
theorem parts_P (hv : vn c S) (hc : c ≤ 12) : ∃ R : List Nat, R.length = (np_parts c S.1).2 ∧ pn_P c S R := by
  obtain ⟨-, i2, i3, -⟩ := parts_I hv hc
  have reps : ∀ n, n ≤ (np_parts c S.1).2 → ∃ R : List Nat, R.length = n ∧ ∀ r, r < n → ∃ v, v ∈ R ∧ v < 2 * c ∧ (np_parts c S.1).1 v = nI r := by
    intro n
    induction n with
    | zero => exact fun _ => ⟨[], rfl, fun r hr => absurd hr (Nat.not_lt_zero _)⟩
    | succ n ih =>
      intro hn
      obtain ⟨R, r1, r2⟩ := ih (by omega)
      obtain ⟨v, v1, v2⟩ := i3 n (by omega)
      refine ⟨v :: R, by rw [List.length_cons, r1], fun r hr => ?_⟩
      by_cases e : r = n
      · rw [e]
        exact ⟨v, List.mem_cons_self, v1, v2⟩
      · obtain ⟨u, u1, u2⟩ := r2 r (by omega)
        exact ⟨u, List.mem_cons_of_mem _ u1, u2⟩
  obtain ⟨R, r1, r2⟩ := reps _ (Nat.le_refl _)
  refine ⟨R, r1, fun v hvl => ?_⟩
  obtain ⟨r, q1, q2⟩ := i2 v hvl
  obtain ⟨u, u1, u2, u3⟩ := r2 r q1
  exact ⟨u, u1, u2, (parts_iff hv hc u2 hvl).mp (by rw [u3, q2])⟩
theorem parts_ub (hv : vn c S) (hc : c ≤ 12) {R : List Nat} (hR : pn_P c S R) : (np_parts c S.1).2 ≤ R.length := by
  obtain ⟨-, i2, i3, i4⟩ := parts_I hv hc
  have := nodup_le ((List.range (np_parts c S.1).2).map nI) (R.map (np_parts c S.1).1) (nodup_map List.nodup_range (fun a b ha hb e => ow_nI_inj (by have := List.mem_range.mp ha; omega) (by have := List.mem_range.mp hb; omega) e)) (fun a ha => by
    obtain ⟨r, hr, e⟩ := List.mem_map.mp ha
    obtain ⟨v, v1, v2⟩ := i3 r (List.mem_range.mp hr)
    obtain ⟨u, u1, u2, u3⟩ := hR v v1
    exact List.mem_map.mpr ⟨u, u1, by rw [(parts_iff hv hc u2 v1).mpr u3, v2, e]⟩)
  rw [List.length_map, List.length_map, List.length_range] at this
  exact this
/-- plane as the class counts it is plane -/
theorem plane_iff {T : ow_NT} (hv : vn T.1 T.2.2.1) (hc : T.1 ≤ 12) : nt_plane T = true ↔ pn_pl T.1 T.2.2.1 (stG T.2.2.2) := by
  obtain ⟨R, r1, r2⟩ := parts_P hv hc
  unfold nt_plane
  rw [decide_eq_true_iff]
  constructor
  · intro h
    refine ⟨R, r2, ?_⟩
    have := faces_ge (G := T.2.2.2) hv hc
    rw [h, ← r1] at this
    exact this
  · rintro ⟨R', p1, p2⟩
    have h1 := parts_ub hv hc p1
    have h2 := faces_le hv hc p2
    have h3 := pn_eul hv stG_fl r2 (faces_ge (G := T.2.2.2) hv hc)
    omega
theorem plane_ga {T : ow_NT} (hv : vn T.1 T.2.2.1) (hc : T.1 ≤ 12) (h : nt_plane T = true) : gaT T.1 T.2.2.1 := pn_ga hv stG_fl ((plane_iff hv hc).mp h)
end PLK
end
section
/-! 99zzzzzzzzm.pexc -/
/-! two gaps exchanged in a plane net -/
def pm_or (p : Nat → Nat) (a d : Nat) : Prop := ∃ i, itf p i a = d
theorem pm_sp_e {f : Nat → Nat} {P : Nat → Bool} {p x y : Nat} (hP : P x = P y) (hf : f x = f y) : pm_sp f P p x = pm_sp f P p y := by
  unfold pm_sp
  simp only [hP, hf]
section OR
variable {n a b : Nat} {p q : Nat → Nat}
theorem itf_add (p : Nat → Nat) (a : Nat) : ∀ i j, itf p (i + j) a = itf p i (itf p j a)
  | 0, j => by rw [Nat.zero_add]; rfl
  | i + 1, j => by
    rw [show i + 1 + j = (i + j) + 1 by omega]
    show p (itf p (i + j) a) = p (itf p i (itf p j a))
    rw [itf_add p a i j]
theorem or_rf (a : Nat) : pm_or p a a := ⟨0, rfl⟩
theorem or_tr {a b d : Nat} (h : pm_or p a b) (h2 : pm_or p b d) : pm_or p a d := by
  obtain ⟨i, rfl⟩ := h
  obtain ⟨j, rfl⟩ := h2
  exact ⟨j + i, itf_add p a j i⟩
theorem or_st (a : Nat) : pm_or p a (p a) := ⟨1, rfl⟩
theorem or_sy (hl : ∀ d, d < n → p d < n) (hi : ∀ d e, d < n → e < n → p d = p e → d = e) {a d : Nat} (ha : a < n) (h : pm_or p a d) : pm_or p d a := by
  obtain ⟨i, rfl⟩ := h
  obtain ⟨m, m1, -, m3, -⟩ := itf_per hl hi ha
  have per : ∀ k, itf p (k * m) a = a := by
    intro k
    induction k with
    | zero => rw [Nat.zero_mul]; rfl
    | succ k ih => rw [Nat.succ_mul, itf_add, m3, ih]
  refine ⟨(i + 1) * m - i, ?_⟩
  have hle : i ≤ (i + 1) * m := Nat.le_trans (Nat.le_succ i) (Nat.le_mul_of_pos_right _ (by omega))
  rw [← itf_add, Nat.sub_add_cancel hle]
  exact per _
theorem or_lab {β : Type} {f : Nat → β} (hl : ∀ d, d < n → p d < n) (hf : ∀ d, d < n → f (p d) = f d) {a d : Nat} (ha : a < n) (h : pm_or p a d) : f d = f a := by
  obtain ⟨i, rfl⟩ := h
  induction i with
  | zero => rfl
  | succ i ih => exact (hf _ (itf_in (D := fun s => s < n) hl ha i)).trans ih
/-- a map changed at two places -/
def pm_tp (p q : Nat → Nat) (a b : Nat) : Prop := q a = p b ∧ q b = p a ∧ ∀ d, d ≠ a → d ≠ b → q d = p d
theorem tp_lt (h : pm_tp p q a b) (hl : ∀ d, d < n → p d < n) (ha : a < n) (hb : b < n) : ∀ d, d < n → q d < n := by
  intro d hd
  by_cases e1 : d = a
  · rw [e1, h.1]; exact hl b hb
  · by_cases e2 : d = b
    · rw [e2, h.2.1]; exact hl a ha
    · rw [h.2.2 d e1 e2]; exact hl d hd
theorem tp_inj (h : pm_tp p q a b) (hi : ∀ d e, d < n → e < n → p d = p e → d = e) (ha : a < n) (hb : b < n) : ∀ d e, d < n → e < n → q d = q e → d = e := by
  have key : ∀ d, d < n → ∃ d', d' < n ∧ q d = p d' ∧ d' = (if d = a then b else if d = b then a else d) := by
    intro d hd
    by_cases e1 : d = a
    · exact ⟨b, hb, by rw [e1, h.1], by rw [if_pos e1]⟩
    · by_cases e2 : d = b
      · exact ⟨a, ha, by rw [e2, h.2.1], by rw [if_neg e1, if_pos e2]⟩
      · exact ⟨d, hd, h.2.2 d e1 e2, by rw [if_neg e1, if_neg e2]⟩
  intro d e hd he q1
  obtain ⟨d', d1, d2, d3⟩ := key d hd
  obtain ⟨e', e1, e2, e3⟩ := key e he
  have := hi _ _ d1 e1 (by rw [← d2, ← e2, q1])
  rw [d3, e3] at this
  split at this <;> split at this <;> (try split at this) <;> (try split at this) <;> omega
theorem tp_mg (h : pm_tp p q a b) {f : Nat → Nat} (hf : ∀ d, d < n → f (p d) = f d) (ha : a < n) (hb : b < n) : ∀ d, d < n → pm_mg f (f a) (f b) (q d) = pm_mg f (f a) (f b) d := by
  intro d hd
  by_cases e1 : d = a
  · rw [e1, h.1, pm_mg_e (hf b hb)]
    exact pm_mg_m.symm
  · by_cases e2 : d = b
    · rw [e2, h.2.1, pm_mg_e (hf a ha)]
      exact pm_mg_m
    · rw [h.2.2 d e1 e2]
      exact pm_mg_e (hf d hd)
/-- a round parted -/
theorem tp_no (h : pm_tp p q a b) (hl : ∀ d, d < n → p d < n) (hi : ∀ d e, d < n → e < n → p d = p e → d = e) (ha : a < n) (hne : a ≠ b) (ho : pm_or p a b) : ¬ pm_or q a b := by
  obtain ⟨M, m1, -, m3, m4⟩ := itf_per hl hi ha
  have red : ∃ m, m < M ∧ itf p m a = b := by
    obtain ⟨i, hi2⟩ := ho
    have : ∀ i, ∃ m, m < M ∧ itf p m a = itf p i a := by
      intro i
      induction i with
      | zero => exact ⟨0, by omega, rfl⟩
      | succ i ih =>
        obtain ⟨m, e1, e2⟩ := ih
        have e3 : itf p (m + 1) a = itf p (i + 1) a := congrArg p e2
        by_cases e : m + 1 = M
        · exact ⟨0, by omega, by rw [← e3, e, m3]; rfl⟩
        · exact ⟨m + 1, by omega, e3⟩
    obtain ⟨m, e1, e2⟩ := this i
    exact ⟨m, e1, e2.trans hi2⟩
  obtain ⟨m, hm, eb⟩ := red
  have hm0 : m ≠ 0 := fun e => hne (by rw [← eb, e]; rfl)
  have key : ∀ j, ∃ i, m < i ∧ i ≤ M ∧ itf q j a = itf p i a := by
    intro j
    induction j with
    | zero => exact ⟨M, by omega, by omega, m3.symm⟩
    | succ j ih =>
      obtain ⟨i, i1, i2, i3⟩ := ih
      show ∃ i', m < i' ∧ i' ≤ M ∧ q (itf q j a) = itf p i' a
      rw [i3]
      by_cases e : i = M
      · refine ⟨m + 1, by omega, by omega, ?_⟩
        rw [e, m3, h.1, ← eb]
        rfl
      · have h1 : itf p i a ≠ a := fun e9 => by have := m4 i 0 (by omega) (by omega) e9; omega
        have h2 : itf p i a ≠ b := fun e9 => by have := m4 i m (by omega) hm (e9.trans eb.symm); omega
        exact ⟨i + 1, by omega, by omega, by rw [h.2.2 _ h1 h2]; rfl⟩
  rintro ⟨j, hj⟩
  obtain ⟨i, i1, i2, i3⟩ := key j
  rw [hj, ← eb] at i3
  by_cases e : i = M
  · rw [e, m3] at i3
    have := m4 m 0 hm (by omega) i3
    omega
  · have := m4 m i hm (by omega) i3
    omega
theorem tp_sp (h : pm_tp p q a b) (hl : ∀ d, d < n → p d < n) (hi : ∀ d e, d < n → e < n → p d = p e → d = e) (ha : a < n) (hb : b < n) (hne : a ≠ b) (ho : pm_or p a b) {f : Nat → Nat} (hf : ∀ d, d < n → f (p d) = f d) {X : List Nat} (hX : ∀ x, x ∈ X → x < n) (hv : pm_dv f X) : ∃ (g : Nat → Nat) (Y : List Nat), (∀ d, d < n → g (q d) = g d) ∧ (∀ y, y ∈ Y → y < n) ∧ pm_dv g Y ∧ X.length + 1 ≤ Y.length := by
  have hno := tp_no h hl hi ha hne ho
  have hl2 := tp_lt h hl ha hb
  have hi2 := tp_inj h hi ha hb
  have eab : f a = f b := (or_lab hl hf ha ho).symm
  obtain ⟨Y, y1, y2, y3⟩ := pm_sp_dv (P := fun d => @decide (pm_or q a d) (Classical.propDecidable _)) (a := a) (b := b) hv (@decide_eq_true _ (Classical.propDecidable _) (or_rf a)) (@decide_eq_false _ (Classical.propDecidable _) hno) eab
  refine ⟨_, Y, fun d hd => ?_, fun y hy => ?_, y3, y2⟩
  · have fq : f (q d) = f d := by
      by_cases e1 : d = a
      · rw [e1, h.1, hf b hb, eab]
      · by_cases e2 : d = b
        · rw [e2, h.2.1, hf a ha, eab]
        · rw [h.2.2 d e1 e2, hf d hd]
    have pq : @decide (pm_or q a (q d)) (Classical.propDecidable _) = @decide (pm_or q a d) (Classical.propDecidable _) := by
      by_cases h1 : pm_or q a d
      · rw [@decide_eq_true _ (Classical.propDecidable _) h1, @decide_eq_true _ (Classical.propDecidable _) (or_tr h1 (or_st d))]
      · rw [@decide_eq_false _ (Classical.propDecidable _) h1, @decide_eq_false _ (Classical.propDecidable _) (fun h9 => h1 (or_tr h9 (or_sy hl2 hi2 hd (or_st d))))]
    exact pm_sp_e pq fq
  · rcases y1 y hy with h9 | h9 | h9
    · rw [h9]; exact ha
    · rw [h9]; exact hb
    · exact hX y h9
end OR
section EX
variable {c : Nat} {S : ow_NP} {b : Nat → Bool} {v w : Nat}
/-- the map of darts between the two exchanges -/
def pn_md (S : ow_NP) (b : Nat → Bool) (v w d : Nat) : Nat := if d = 2 * v then pn_ph S b (2 * w) else if d = 2 * w then pn_ph S b (2 * v) else pn_ph S b d
def pn_mo (S : ow_NP) (b : Nat → Bool) (v w d : Nat) : Nat := if d = 2 * S.1 v + 1 then pn_ph S b (2 * S.1 w + 1) else if d = 2 * S.1 w + 1 then pn_ph S b (2 * S.1 v + 1) else pn_ph S b d
theorem md_tp (hne : v ≠ w) : pm_tp (pn_ph S b) (pn_md S b v w) (2 * v) (2 * w) := by
  refine ⟨if_pos rfl, ?_, fun d h1 h2 => ?_⟩
  · unfold pn_md
    rw [if_neg (by omega), if_pos rfl]
  · unfold pn_md
    rw [if_neg h1, if_neg h2]
theorem mo_tp (hne : S.1 v ≠ S.1 w) : pm_tp (pn_ph S b) (pn_mo S b v w) (2 * S.1 v + 1) (2 * S.1 w + 1) := by
  refine ⟨if_pos rfl, ?_, fun d h1 h2 => ?_⟩
  · unfold pn_mo
    rw [if_neg (by omega), if_pos rfl]
  · unfold pn_mo
    rw [if_neg h1, if_neg h2]
theorem ex_al (hv : vn c S) (h1 : v < 2 * c) (h2 : w < 2 * c) (hne : v ≠ w) : pn_al (np_exchange S v w) (2 * v) = pn_al S (2 * w) ∧ pn_al (np_exchange S v w) (2 * w) = pn_al S (2 * v) ∧ pn_al (np_exchange S v w) (2 * S.1 v + 1) = pn_al S (2 * S.1 w + 1) ∧ pn_al (np_exchange S v w) (2 * S.1 w + 1) = pn_al S (2 * S.1 v + 1) ∧ ∀ d, d < 4 * c → d ≠ 2 * v → d ≠ 2 * w → d ≠ 2 * S.1 v + 1 → d ≠ 2 * S.1 w + 1 → pn_al (np_exchange S v w) d = pn_al S d := by
  have hi : S.1 v ≠ S.1 w := fun e => hne (vn_inj hv h1 h2 e)
  have e1 := (hv v h1).2.2.1
  have e2 := (hv w h2).2.2.1
  refine ⟨?_, ?_, ?_, ?_, fun d hd g1 g2 g3 g4 => ?_⟩
  · rw [pn_al0, pn_al0, np_exchange_1, if_neg hne, if_pos rfl]
  · rw [pn_al0, pn_al0, np_exchange_1, if_pos rfl]
  · rw [pn_al1, pn_al1, np_exchange_2, if_pos rfl, e2]
  · rw [pn_al1, pn_al1, np_exchange_2, if_neg (fun e => hi e.symm), if_pos rfl, e1]
  · unfold pn_al
    by_cases e : d % 2 = 0
    · rw [if_pos e, if_pos e, np_exchange_1, if_neg (by omega), if_neg (by omega)]
    · rw [if_neg e, if_neg e, np_exchange_2, if_neg (by omega), if_neg (by omega)]
theorem md_tp2 (hv : vn c S) (h1 : v < 2 * c) (h2 : w < 2 * c) (hne : v ≠ w) : ∃ q, (∀ d, d < 4 * c → q d = pn_ph (np_exchange S v w) b d) ∧ pm_tp (pn_md S b v w) q (2 * S.1 v + 1) (2 * S.1 w + 1) := by
  have hi : S.1 v ≠ S.1 w := fun e => hne (vn_inj hv h1 h2 e)
  obtain ⟨a1, a2, a3, a4, a5⟩ := ex_al hv h1 h2 hne
  have k1 : pn_md S b v w (2 * S.1 v + 1) = pn_ph S b (2 * S.1 v + 1) := (md_tp hne).2.2 _ (by omega) (by omega)
  have k2 : pn_md S b v w (2 * S.1 w + 1) = pn_ph S b (2 * S.1 w + 1) := (md_tp hne).2.2 _ (by omega) (by omega)
  refine ⟨fun d => if d = 2 * S.1 v + 1 then pn_md S b v w (2 * S.1 w + 1) else if d = 2 * S.1 w + 1 then pn_md S b v w (2 * S.1 v + 1) else pn_md S b v w d, fun d hd => ?_, if_pos rfl, ?_, fun d g1 g2 => ?_⟩
  · dsimp only
    unfold pn_ph
    by_cases e3 : d = 2 * S.1 v + 1
    · rw [if_pos e3, k2, e3, a3]
      rfl
    · rw [if_neg e3]
      by_cases e4 : d = 2 * S.1 w + 1
      · rw [if_pos e4, k1, e4, a4]
        rfl
      · rw [if_neg e4]
        by_cases e1 : d = 2 * v
        · rw [e1, a1]
          exact (md_tp hne).1
        · by_cases e2 : d = 2 * w
          · rw [e2, a2]
            exact (md_tp hne).2.1
          · rw [a5 d hd e1 e2 e3 e4]
            exact (md_tp hne).2.2 d e1 e2
  · dsimp only
    rw [if_neg (by omega), if_pos rfl]
  · dsimp only
    rw [if_neg g1, if_neg g2]
theorem mo_tp2 (hv : vn c S) (h1 : v < 2 * c) (h2 : w < 2 * c) (hne : v ≠ w) : ∃ q, (∀ d, d < 4 * c → q d = pn_ph (np_exchange S v w) b d) ∧ pm_tp (pn_mo S b v w) q (2 * v) (2 * w) := by
  have hi : S.1 v ≠ S.1 w := fun e => hne (vn_inj hv h1 h2 e)
  obtain ⟨a1, a2, a3, a4, a5⟩ := ex_al hv h1 h2 hne
  have k1 : pn_mo S b v w (2 * v) = pn_ph S b (2 * v) := (mo_tp hi).2.2 _ (by omega) (by omega)
  have k2 : pn_mo S b v w (2 * w) = pn_ph S b (2 * w) := (mo_tp hi).2.2 _ (by omega) (by omega)
  refine ⟨fun d => if d = 2 * v then pn_mo S b v w (2 * w) else if d = 2 * w then pn_mo S b v w (2 * v) else pn_mo S b v w d, fun d hd => ?_, if_pos rfl, ?_, fun d g1 g2 => ?_⟩
  · dsimp only
    unfold pn_ph
    by_cases e3 : d = 2 * v
    · rw [if_pos e3, k2, e3, a1]
      rfl
    · rw [if_neg e3]
      by_cases e4 : d = 2 * w
      · rw [if_pos e4, k1, e4, a2]
        rfl
      · rw [if_neg e4]
        by_cases e1 : d = 2 * S.1 v + 1
        · rw [e1, a3]
          exact (mo_tp hi).1
        · by_cases e2 : d = 2 * S.1 w + 1
          · rw [e2, a4]
            exact (mo_tp hi).2.1
          · rw [a5 d hd e3 e4 e1 e2]
            exact (mo_tp hi).2.2 d e1 e2
  · dsimp only
    rw [if_neg (by omega), if_pos rfl]
  · dsimp only
    rw [if_neg g1, if_neg g2]
/-! parts of an exchanged net -/
theorem ex_rch_keep (hv : vn c S) (h1 : v < 2 * c) (h2 : w < 2 * c) (hj : rch c (np_exchange S v w) v w) {x u : Nat} (h : rch c S x u) : rch c (np_exchange S v w) x u := by
  have hv' := vn_exchange hv h1 h2
  have hj' := rch_sy hv' h1 hj
  refine h (fun u => rch c (np_exchange S v w) x u) (rch_rf _ _ _) (fun j hjl hp => ?_) (fun j hjl hp => rch_m hp hjl)
  by_cases e1 : j = v
  · have := rch_n (rch_tr hp (by rw [e1]; exact hj)) h2
    rw [np_exchange_1, if_pos rfl] at this
    rw [e1]
    exact this
  · by_cases e2 : j = w
    · have := rch_n (rch_tr hp (by rw [e2]; exact hj')) h1
      rw [np_exchange_1, if_neg (fun e => e1 (e2.trans e.symm)), if_pos rfl] at this
      rw [e2]
      exact this
    · have := rch_n hp hjl
      rw [np_exchange_1, if_neg e2, if_neg e1] at this
      exact this
/-- what is not joined to the places of the exchange stays joined -/
theorem ex_rch_far (hv : vn c S) (h1 : v < 2 * c) (h2 : w < 2 * c) {x u : Nat} (hx : x < 2 * c) (n1 : ¬ rch c S x v) (n2 : ¬ rch c S x w) (h : rch c S x u) : rch c (np_exchange S v w) x u := by
  refine (h (fun u => rch c S x u ∧ rch c (np_exchange S v w) x u) ⟨rch_rf _ _ _, rch_rf _ _ _⟩ (fun j hjl hp => ⟨rch_n hp.1 hjl, ?_⟩) (fun j hjl hp => ⟨rch_m hp.1 hjl, rch_m hp.2 hjl⟩)).2
  have := rch_n hp.2 hjl
  rw [np_exchange_1, if_neg (fun e => n2 (by rw [← e]; exact hp.1)), if_neg (fun e => n1 (by rw [← e]; exact hp.1))] at this
  exact this
/-- two parts become one -/
theorem ex_join (hv : vn c S) (h1 : v < 2 * c) (h2 : w < 2 * c) (hn : ¬ rch c S v w) : rch c (np_exchange S v w) v w := by
  have hv' := vn_exchange hv h1 h2
  have hne : v ≠ w := fun e => hn (by rw [e]; exact rch_rf _ _ _)
  refine Classical.byContradiction (fun hw => ?_)
  have z0 : rch c (np_exchange S v w) v (S.1 w) := by
    have := rch_n (rch_rf c (np_exchange S v w) v) h1
    rw [np_exchange_1, if_neg hne, if_pos rfl] at this
    exact this
  have hl := (hv w h2).1
  have key : ∀ i, itf S.1 i (S.1 w) < 2 * c ∧ rch c S w (itf S.1 i (S.1 w)) ∧ rch c (np_exchange S v w) v (itf S.1 i (S.1 w)) := by
    intro i
    induction i with
    | zero => exact ⟨hl, rch_n (rch_rf _ _ _) h2, z0⟩
    | succ i ih =>
      obtain ⟨i1, i2, i3⟩ := ih
      refine ⟨(hv _ i1).1, rch_n i2 i1, ?_⟩
      have := rch_n i3 i1
      have h8 : itf S.1 i (S.1 w) ≠ w := fun e => by have h7 := i3; rw [e] at h7; exact hw h7
      have h9 : itf S.1 i (S.1 w) ≠ v := fun e => by have h7 := i2; rw [e] at h7; exact hn (rch_sy hv h2 h7)
      rw [np_exchange_1, if_neg h8, if_neg h9] at this
      exact this
  obtain ⟨k, hk⟩ := itf_back (f := S.1) (D := fun s => s < 2 * c) (N := 2 * c) (fun s hs => hs) (fun s hs => (hv s hs).1) (fun s t hs ht e => vn_inj hv hs ht e) h2
  have := (key k).2.2
  have e9 : itf S.1 k (S.1 w) = w := by
    have := itf_add S.1 w k 1
    rw [hk] at this
    exact this.symm
  rw [e9] at this
  exact hw this
/-- where an exchange parts a part both sides of the two gaps are in one face each -/
theorem ex_bridge (hv : vn c S) (hb : pn_fl b) (hp : pn_pl c S b) (h1 : v < 2 * c) (h2 : w < 2 * c) (hn : ¬ rch c (np_exchange S v w) v w) : pm_or (pn_ph S b) (2 * v) (2 * w) ∧ pm_or (pn_ph S b) (2 * S.1 v + 1) (2 * S.1 w + 1) ∧ ∃ κ : Nat → Bool, (∀ d, d < 4 * c → κ (pn_ph S b d) = κ d) ∧ κ (2 * S.1 v + 1) = !κ (2 * v) := by
  have hv' := vn_exchange hv h1 h2
  have hne : v ≠ w := fun e => hn (by rw [e]; exact rch_rf _ _ _)
  obtain ⟨κ, hκ⟩ := pn_kap hv hb hp
  have kph : ∀ d, d < 4 * c → κ (pn_ph S b d) = κ d := fun d hd => by
    unfold pn_ph
    rw [(hκ _ (pn_al_lt hv hd)).1, (hκ d hd).2, Bool.not_not]
  have kal : κ (2 * S.1 v + 1) = !κ (2 * v) := by
    have := (hκ (2 * v) (by omega)).2
    rw [pn_al0] at this
    exact this
  have hlt : ∀ d, d < 4 * c → pn_ph S b d < 4 * c := fun d hd => pn_ph_lt hv hd
  have hinj : ∀ d e, d < 4 * c → e < 4 * c → pn_ph S b d = pn_ph S b e → d = e := fun d e hd he q => pn_ph_inj hv hb hd he q
  let B : Nat → Prop := fun d => rch c (np_exchange S v w) v (d / 2)
  have hl1 := (hv v h1).1
  have hl2 := (hv w h2).1
  -- around crossings
  have Brt : ∀ d, d < 4 * c → (B (pn_rt b d) ↔ B d) := fun d hd => by
    show rch c (np_exchange S v w) v (pn_rt b d / 2) ↔ rch c (np_exchange S v w) v (d / 2)
    rw [pn_rt_h]
    exact ⟨fun h => by have := rch_m h (mt_lt (show d / 2 < 2 * c by omega)); rw [mt_mt] at this; exact this, fun h => rch_m h (by omega)⟩
  have nx' : ∀ u, u < 2 * c → (rch c (np_exchange S v w) v ((np_exchange S v w).1 u) ↔ rch c (np_exchange S v w) v u) := fun u hu => ⟨fun h => rch_tr h (rch_back hv' hu), fun h => rch_n h hu⟩
  have Bv : B (2 * v) := by
    show rch c (np_exchange S v w) v (2 * v / 2)
    rw [show 2 * v / 2 = v by omega]
    exact rch_rf _ _ _
  have Bw : ¬ B (2 * w) := by
    show ¬ rch c (np_exchange S v w) v (2 * w / 2)
    rw [show 2 * w / 2 = w by omega]
    exact hn
  have Bv' : ¬ B (2 * S.1 v + 1) := by
    show ¬ rch c (np_exchange S v w) v ((2 * S.1 v + 1) / 2)
    rw [show (2 * S.1 v + 1) / 2 = S.1 v by omega]
    intro h
    have := nx' w h2
    rw [np_exchange_1, if_pos rfl] at this
    exact hn (this.mp h)
  have Bw' : B (2 * S.1 w + 1) := by
    show rch c (np_exchange S v w) v ((2 * S.1 w + 1) / 2)
    rw [show (2 * S.1 w + 1) / 2 = S.1 w by omega]
    have := nx' v h1
    rw [np_exchange_1, if_neg hne, if_pos rfl] at this
    exact this.mpr (rch_rf _ _ _)
  have Bal : ∀ d, d < 4 * c → d ≠ 2 * v → d ≠ 2 * w → d ≠ 2 * S.1 v + 1 → d ≠ 2 * S.1 w + 1 → (B (pn_al S d) ↔ B d) := fun d hd g1 g2 g3 g4 => by
    rw [← (ex_al hv h1 h2 hne).2.2.2.2 d hd g1 g2 g3 g4]
    show rch c (np_exchange S v w) v (pn_al (np_exchange S v w) d / 2) ↔ rch c (np_exchange S v w) v (d / 2)
    unfold pn_al
    by_cases e : d % 2 = 0
    · rw [if_pos e, show (2 * (np_exchange S v w).1 (d / 2) + 1) / 2 = (np_exchange S v w).1 (d / 2) by omega]
      exact nx' _ (by omega)
    · rw [if_neg e, show 2 * (np_exchange S v w).2 (d / 2) / 2 = (np_exchange S v w).2 (d / 2) by omega]
      obtain ⟨q1, q2, q3, q4⟩ := hv' (d / 2) (by omega)
      have := nx' _ q2
      rw [q4] at this
      exact this.symm
  have Bph : ∀ d, d < 4 * c → d ≠ 2 * v → d ≠ 2 * w → d ≠ 2 * S.1 v + 1 → d ≠ 2 * S.1 w + 1 → (B (pn_ph S b d) ↔ B d) := fun d hd g1 g2 g3 g4 => (Brt _ (pn_al_lt hv hd)).trans (Bal d hd g1 g2 g3 g4)
  refine ⟨?_, ?_, κ, kph, kal⟩
  · -- from 2 v on
    have hs : 2 * v < 4 * c := by omega
    have lt : ∀ i, itf (pn_ph S b) i (2 * v) < 4 * c := fun i => itf_in (D := fun s => s < 4 * c) hlt hs i
    have key : ∀ i, ¬ B (itf (pn_ph S b) (i + 1) (2 * v)) ∨ pm_or (pn_ph S b) (2 * v) (2 * w) ∨ pm_or (pn_ph S b) (2 * v) (2 * S.1 v + 1) := by
      intro i
      induction i with
      | zero =>
        left
        show ¬ B (pn_rt b (pn_al S (2 * v)))
        rw [Brt _ (pn_al_lt hv hs), pn_al0]
        exact Bv'
      | succ i ih =>
        rcases ih with h | h
        · show ¬ B (pn_ph S b (itf (pn_ph S b) (i + 1) (2 * v))) ∨ _
          by_cases e2 : itf (pn_ph S b) (i + 1) (2 * v) = 2 * w
          · exact Or.inr (Or.inl ⟨_, e2⟩)
          · by_cases e3 : itf (pn_ph S b) (i + 1) (2 * v) = 2 * S.1 v + 1
            · exact Or.inr (Or.inr ⟨_, e3⟩)
            · left
              rw [Bph _ (lt _) (fun e => h (by rw [e]; exact Bv)) e2 e3 (fun e => h (by rw [e]; exact Bw'))]
              exact h
        · exact Or.inr h
    obtain ⟨k, hk⟩ := itf_back (f := pn_ph S b) (D := fun s => s < 4 * c) (N := 4 * c) (fun s hs => hs) hlt (fun s t hs ht e => hinj s t hs ht e) hs
    rcases key k with h | h | h
    · rw [hk] at h
      exact absurd Bv h
    · exact h
    · have := or_lab hlt kph hs h
      rw [kal] at this
      exact absurd this (by cases κ (2 * v) <;> decide)
  · have hs : 2 * S.1 v + 1 < 4 * c := by omega
    have lt : ∀ i, itf (pn_ph S b) i (2 * S.1 v + 1) < 4 * c := fun i => itf_in (D := fun s => s < 4 * c) hlt hs i
    have key : ∀ i, B (itf (pn_ph S b) (i + 1) (2 * S.1 v + 1)) ∨ pm_or (pn_ph S b) (2 * S.1 v + 1) (2 * S.1 w + 1) ∨ pm_or (pn_ph S b) (2 * S.1 v + 1) (2 * v) := by
      intro i
      induction i with
      | zero =>
        left
        show B (pn_rt b (pn_al S (2 * S.1 v + 1)))
        rw [Brt _ (pn_al_lt hv hs), pn_al1, (hv v h1).2.2.1]
        exact Bv
      | succ i ih =>
        rcases ih with h | h
        · show B (pn_ph S b (itf (pn_ph S b) (i + 1) (2 * S.1 v + 1))) ∨ _
          by_cases e2 : itf (pn_ph S b) (i + 1) (2 * S.1 v + 1) = 2 * S.1 w + 1
          · exact Or.inr (Or.inl ⟨_, e2⟩)
          · by_cases e3 : itf (pn_ph S b) (i + 1) (2 * S.1 v + 1) = 2 * v
            · exact Or.inr (Or.inr ⟨_, e3⟩)
            · left
              rw [Bph _ (lt _) e3 (fun e => Bw (by rw [← e]; exact h)) (fun e => Bv' (by rw [← e]; exact h)) e2]
              exact h
        · exact Or.inr h
    obtain ⟨k, hk⟩ := itf_back (f := pn_ph S b) (D := fun s => s < 4 * c) (N := 4 * c) (fun s hs => hs) hlt (fun s t hs ht e => hinj s t hs ht e) hs
    rcases key k with h | h | h
    · rw [hk] at h
      exact absurd h Bv'
    · exact h
    · have := or_lab hlt kph hs h
      rw [kal] at this
      exact absurd this (by cases κ (2 * v) <;> decide)
/-- the exchange of two gaps keeps a net plane: of two parts, or with a face in common on one side -/
theorem pn_exch (hv : vn c S) (hb : pn_fl b) (hp : pn_pl c S b) (h1 : v < 2 * c) (h2 : w < 2 * c) (hne : v ≠ w) (h : ¬ rch c S v w ∨ pm_or (pn_ph S b) (2 * v) (2 * w) ∨ pm_or (pn_ph S b) (2 * S.1 v + 1) (2 * S.1 w + 1)) : pn_pl c (np_exchange S v w) b := by
  have hv' := vn_exchange hv h1 h2
  have hi : S.1 v ≠ S.1 w := fun e => hne (vn_inj hv h1 h2 e)
  have hl1 := (hv v h1).1
  have hl2 := (hv w h2).1
  have hlt : ∀ d, d < 4 * c → pn_ph S b d < 4 * c := fun d hd => pn_ph_lt hv hd
  have hinj : ∀ d e, d < 4 * c → e < 4 * c → pn_ph S b d = pn_ph S b e → d = e := fun d e hd he q => pn_ph_inj hv hb hd he q
  have a1 : 2 * v < 4 * c := by omega
  have a2 : 2 * w < 4 * c := by omega
  have a3 : 2 * S.1 v + 1 < 4 * c := by omega
  have a4 : 2 * S.1 w + 1 < 4 * c := by omega
  have tm := md_tp (S := S) (b := b) hne
  have to := mo_tp (S := S) (b := b) hi
  have mlt := tp_lt tm hlt a1 a2
  have mij := tp_inj tm hinj a1 a2
  obtain ⟨qm, qm1, qm2⟩ := md_tp2 (b := b) hv h1 h2 hne
  obtain ⟨qo, qo1, qo2⟩ := mo_tp2 (b := b) hv h1 h2 hne
  have bridge := fun hn => ex_bridge hv hb hp h1 h2 hn
  obtain ⟨R, hR, f, X, f1, f2, f3, f4⟩ := hp
  by_cases hj : rch c S v w
  · have h := h.resolve_left (fun h9 => h9 hj)
    by_cases hj' : rch c (np_exchange S v w) v w
    · refine ⟨R, fun u hu => ?_, ?_⟩
      · obtain ⟨r, r1, r2, r3⟩ := hR u hu
        exact ⟨r, r1, r2, ex_rch_keep hv h1 h2 hj' r3⟩
      · rcases h with h | h
        · obtain ⟨g, Y, g1, g2, g3, g4⟩ := tp_sp tm hlt hinj a1 a2 (by omega) h f1 f2 f3
          have k1 := tp_mg qm2 g1 a3 a4
          obtain ⟨Z, z1, z2, z3⟩ := pm_mg_dv g3 (g (2 * S.1 v + 1)) (g (2 * S.1 w + 1))
          exact ⟨_, Z, fun d hd => by rw [← qm1 d hd]; exact k1 d hd, fun x hx => g2 x (z1 x hx), z3, by omega⟩
        · obtain ⟨g, Y, g1, g2, g3, g4⟩ := tp_sp to hlt hinj a3 a4 (by omega) h f1 f2 f3
          have k1 := tp_mg qo2 g1 a1 a2
          obtain ⟨Z, z1, z2, z3⟩ := pm_mg_dv g3 (g (2 * v)) (g (2 * w))
          exact ⟨_, Z, fun d hd => by rw [← qo1 d hd]; exact k1 d hd, fun x hx => g2 x (z1 x hx), z3, by omega⟩
    · obtain ⟨b1, b2, κ, k1, k2⟩ := bridge hj'
      obtain ⟨r1, q1, q2, q3⟩ := hR v h1
      refine ⟨v :: w :: R.erase r1, fun u hu => ?_, ?_⟩
      · by_cases hu2 : rch c S v u
        · have key : rch c (np_exchange S v w) v u ∨ rch c (np_exchange S v w) w u := by
            refine hu2 (fun u => rch c (np_exchange S v w) v u ∨ rch c (np_exchange S v w) w u) (Or.inl (rch_rf _ _ _)) (fun j hjl hp => ?_) (fun j hjl hp => ?_)
            · by_cases e1 : j = v
              · right
                have := rch_n (rch_rf c (np_exchange S v w) w) h2
                rw [np_exchange_1, if_pos rfl] at this
                rw [e1]
                exact this
              · by_cases e2 : j = w
                · left
                  have := rch_n (rch_rf c (np_exchange S v w) v) h1
                  rw [np_exchange_1, if_neg hne, if_pos rfl] at this
                  rw [e2]
                  exact this
                · rcases hp with hp | hp
                  · left
                    have := rch_n hp hjl
                    rw [np_exchange_1, if_neg e2, if_neg e1] at this
                    exact this
                  · right
                    have := rch_n hp hjl
                    rw [np_exchange_1, if_neg e2, if_neg e1] at this
                    exact this
            · rcases hp with hp | hp
              · exact Or.inl (rch_m hp hjl)
              · exact Or.inr (rch_m hp hjl)
          rcases key with k | k
          · exact ⟨v, List.mem_cons_self, h1, k⟩
          · exact ⟨w, List.mem_cons_of_mem _ List.mem_cons_self, h2, k⟩
        · obtain ⟨r, p1, p2, p3⟩ := hR u hu
          have e1 : r ≠ r1 := fun e => hu2 (rch_tr (rch_sy hv q2 q3) (by rw [← e]; exact p3))
          have nv : ¬ rch c S r v := fun h9 => hu2 (rch_tr (rch_sy hv p2 h9) p3)
          exact ⟨r, List.mem_cons_of_mem _ (List.mem_cons_of_mem _ ((List.mem_erase_of_ne e1).mpr p1)), p2, ex_rch_far hv h1 h2 p2 nv (fun h9 => nv (rch_tr h9 (rch_sy hv h1 hj))) p3⟩
      · obtain ⟨g, Y, g1, g2, g3, g4⟩ := tp_sp tm hlt hinj a1 a2 (by omega) b1 f1 f2 f3
        -- the other round is untouched
        have kv : κ (2 * w) = κ (2 * v) := or_lab hlt k1 a1 b1
        have same : ∀ i, itf (pn_md S b v w) i (2 * S.1 v + 1) = itf (pn_ph S b) i (2 * S.1 v + 1) := by
          intro i
          induction i with
          | zero => rfl
          | succ i ih =>
            show pn_md S b v w (itf (pn_md S b v w) i (2 * S.1 v + 1)) = pn_ph S b (itf (pn_ph S b) i (2 * S.1 v + 1))
            rw [ih]
            have hk := or_lab hlt k1 a3 (⟨i, rfl⟩ : pm_or (pn_ph S b) (2 * S.1 v + 1) (itf (pn_ph S b) i (2 * S.1 v + 1)))
            rw [k2] at hk
            exact tm.2.2 _ (fun e => by rw [e] at hk; revert hk; cases κ (2 * v) <;> decide) (fun e => by rw [e, kv] at hk; revert hk; cases κ (2 * v) <;> decide)
        obtain ⟨i, hi9⟩ := b2
        obtain ⟨g', Y', g1', g2', g3', g4'⟩ := tp_sp qm2 mlt mij a3 a4 (by omega) ⟨i, by rw [same]; exact hi9⟩ g1 g2 g3
        refine ⟨g', Y', fun d hd => by rw [← qm1 d hd]; exact g1' d hd, g2', g3', ?_⟩
        have hl := List.length_erase_of_mem q1
        have hpos : 0 < R.length := List.length_pos_of_mem q1
        rw [List.length_cons, List.length_cons, hl]
        omega
  · have hj' := ex_join hv h1 h2 hj
    obtain ⟨r1, q1, q2, q3⟩ := hR v h1
    obtain ⟨r2, p1, p2, p3⟩ := hR w h2
    have hne2 : r1 ≠ r2 := fun e => hj (rch_tr (rch_sy hv q2 q3) (by rw [e]; exact p3))
    have hl := List.length_erase_of_mem p1
    have hpos : 0 < R.length := List.length_pos_of_mem p1
    refine ⟨R.erase r2, fun u hu => ?_, ?_⟩
    · obtain ⟨r, s1, s2, s3⟩ := hR u hu
      have s4 := ex_rch_keep hv h1 h2 hj' s3
      by_cases e : r = r2
      · refine ⟨r1, (List.mem_erase_of_ne hne2).mpr q1, q2, ?_⟩
        have t1 := ex_rch_keep hv h1 h2 hj' q3
        have t2 := rch_sy hv' p2 (ex_rch_keep hv h1 h2 hj' p3)
        rw [e] at s4
        exact rch_tr t1 (rch_tr hj' (rch_tr t2 s4))
      · exact ⟨r, (List.mem_erase_of_ne e).mpr s1, s2, s4⟩
    · have k0 := tp_mg tm f1 a1 a2
      obtain ⟨Y, y1, y2, y3⟩ := pm_mg_dv f3 (f (2 * v)) (f (2 * w))
      have k1 := tp_mg qm2 k0 a3 a4
      obtain ⟨Z, z1, z2, z3⟩ := pm_mg_dv y3 (pm_mg f (f (2 * v)) (f (2 * w)) (2 * S.1 v + 1)) (pm_mg f (f (2 * v)) (f (2 * w)) (2 * S.1 w + 1))
      refine ⟨_, Z, fun d hd => by rw [← qm1 d hd]; exact k1 d hd, fun x hx => f2 x (y1 x (z1 x hx)), z3, ?_⟩
      rw [hl]
      omega
end EX
end
section
/-! 99zzzzzzzzn.eiso -/
/-! the code of a net shows the net -/
theorem tkv_nz {sg : Nat → Bool} {p : Nat × Nat} : tkv sg p ≠ 0 := by
  unfold tkv
  omega
theorem tk_inj {sg sg' : Nat → Bool} : ∀ (A A' : rn_L), (∀ p, p ∈ A.flatten → p.2 < 2) → (∀ p, p ∈ A'.flatten → p.2 < 2) → tk sg A = tk sg' A' → A = A' ∧ ∀ p, p ∈ A.flatten → sg p.1 = sg' p.1
  | [], [], _, _, _ => ⟨rfl, fun p hp => by cases hp⟩
  | [], L' :: A', _, _, e => by
    have := congrArg List.length e
    rw [tk_len, tk_len] at this
    simp at this
  | L :: A, [], _, _, e => by
    have := congrArg List.length e
    rw [tk_len, tk_len] at this
    simp at this
  | L :: A, L' :: A', h, h', e => by
    have u : ∀ (sg : Nat → Bool) (L : List (Nat × Nat)) (A : rn_L), tk sg (L :: A) = L.map (tkv sg) ++ 0 :: tk sg A := fun sg L A => by
      unfold tk
      rw [List.map_cons, List.flatten_cons]
      unfold tkc
      rw [List.append_assoc]
      rfl
    rw [u, u] at e
    obtain ⟨e1, e2⟩ := spl0 _ _ _ _ (fun a ha => by
      obtain ⟨p, -, q⟩ := List.mem_map.mp ha
      rw [← q]
      exact tkv_nz) (fun a ha => by
      obtain ⟨p, -, q⟩ := List.mem_map.mp ha
      rw [← q]
      exact tkv_nz) e
    rw [List.flatten_cons] at h h'
    have cl : ∀ (sg : Nat → Bool) (L : List (Nat × Nat)), L.map (tkv sg) = L.map (clc sg 0) := fun sg L => List.map_congr_left (fun p _ => by unfold tkv clc; rw [Nat.sub_zero])
    rw [cl, cl] at e1
    obtain ⟨k1, k2⟩ := clc_inj L L' (fun p hp => ⟨Nat.zero_le _, h p (List.mem_append_left _ hp)⟩) (fun p hp => ⟨Nat.zero_le _, h' p (List.mem_append_left _ hp)⟩) e1
    obtain ⟨i1, i2⟩ := tk_inj A A' (fun p hp => h p (List.mem_append_right _ hp)) (fun p hp => h' p (List.mem_append_right _ hp)) e2
    refine ⟨by rw [k1, i1], fun p hp => ?_⟩
    rw [List.flatten_cons] at hp
    rcases List.mem_append.mp hp with hp | hp
    · exact k2 p hp
    · exact i2 p hp
/-- the last of a row has the first behind it -/
theorem sc_last {L : List vT} (hn : L.Nodup) {i : Nat} (hi : i + 1 = L.length) : sc L (L[i]'(by omega)) = L[0]'(by omega) := by
  cases L with
  | nil => simp at hi
  | cons a X =>
    rcases Nat.eq_zero_or_pos X.length with h0 | h0
    · have : X = [] := List.length_eq_zero_iff.mp h0
      subst this
      have : i = 0 := by simp at hi; omega
      subst this
      rfl
    · have hX : X ≠ [] := fun e => by rw [e] at h0; exact Nat.lt_irrefl _ h0
      have es : a :: X = a :: X.dropLast ++ [X.getLast hX] := by rw [List.cons_append, List.dropLast_concat_getLast]
      have eg : (a :: X)[i]'(by omega) = X.getLast hX := by
        rw [List.getLast_eq_getElem]
        have : i = (X.length - 1) + 1 := by rw [List.length_cons] at hi; omega
        subst this
        rfl
      have hni : X.getLast hX ∉ a :: X.dropLast := by
        have h1 : (a :: X.dropLast ++ [X.getLast hX]).Nodup := by rw [← es]; exact hn
        exact fun h9 => (List.nodup_append.mp h1).2.2 _ h9 _ (List.mem_singleton.mpr rfl) rfl
      have := sc_end hni
      rw [← es] at this
      rw [eg, this]
      rfl
section EI
variable {A : rn_L} {sg : Nat → Bool} {f : Nat → Nat} {T : ow_NT}
theorem rgl_at {s j : Nat} (hj : j < rlen A (rn_c A s)) : (rgl A s)[j]? = some (rv A s j) := by
  unfold rgl
  rw [List.getElem?_map, List.getElem?_range hj]
  rfl
theorem rgl_sc {s w : Nat} {g : Nat → vT} (hs : s < A.flatten.length) (hg : ((rgl A s).map g).Nodup) (hw : w ∈ rgl A s) : sc ((rgl A s).map g) (g w) = g (rn_nx A w) := by
  obtain ⟨j, j1, rfl⟩ := rgl_mem hw
  have hl : ((rgl A s).map g).length = rlen A (rn_c A s) := by rw [List.length_map, rgl_len]
  have at9 : ∀ k (hk : k < rlen A (rn_c A s)), ((rgl A s).map g)[k]'(by rw [hl]; exact hk) = g (rv A s k) := fun k hk => by
    have := rgl_at (A := A) hk
    rw [List.getElem_map]
    congr 1
    exact (List.getElem?_eq_some_iff.mp this).2
  have hnx := rv_nx hs j1
  rw [← at9 j j1, hnx]
  by_cases e : j + 1 = rlen A (rn_c A s)
  · rw [if_pos e, sc_last hg (by rw [hl]; exact e), at9 0 (by omega), rv_0 hs]
  · rw [if_neg e, sc_idx hg (by rw [hl]; omega), at9 (j + 1) (by omega)]
def eiN (A : rn_L) (v : Nat) : Nat := (fm A (vsO A (trS A v))).length
def eiL (A : rn_L) : Nat → List Nat → rn_L
  | _, [] => []
  | b, v :: V => shN b (rnN A (vsO A (trS A v)) (trS A v)) ++ eiL A (b + eiN A v) V
def eiF (A : rn_L) (f : Nat → Nat) : Nat → List Nat → Nat → Nat
  | _, [] => fun _ => 0
  | b, v :: V => fun x => if x < b + eiN A v then f (crs A (((fm A (vsO A (trS A v)))[x - b]?).getD 0)) else eiF A f (b + eiN A v) V x
def eiG (A : rn_L) (sg : Nat → Bool) : Nat → List Nat → Nat → Bool
  | _, [] => fun _ => false
  | b, v :: V => fun x => if x < b + eiN A v then rnG A sg (vsO A (trS A v)) (x - b) else eiG A sg (b + eiN A v) V x
theorem cat_ei (hF : wkF A.flatten) : ∀ (Ps : List prt) (V : List Nat) (b : Nat), (∀ P, P ∈ Ps → gp P.1 P.2.2) → (∀ v, v ∈ V → v < A.flatten.length) → Ps.map (fun P => tk P.2.1 P.1) = V.map (cdv A sg) → catL b Ps = eiL A b V ∧ ∀ p, p ∈ (catL b Ps).flatten → catG b Ps p.1 = eiG A sg b V p.1
  | [], [], b, _, _, _ => ⟨rfl, fun p hp => by cases hp⟩
  | [], v :: V, b, _, _, e => by cases e
  | P :: Ps, [], b, _, _, e => by cases e
  | P :: Ps, v :: V, b, hP, hV, e => by
    obtain ⟨e1, e2⟩ := List.cons.inj e
    have hv := hV v List.mem_cons_self
    obtain ⟨t1, t2, -, -⟩ := trS_all (wkF_ok hF) hv
    have hok := rnN_ok hF t1 t2
    have hg := hP P List.mem_cons_self
    have e1 : tk P.2.1 P.1 = tk (rnG A sg (vsO A (trS A v))) (rnN A (vsO A (trS A v)) (trS A v)) := e1.trans (tks_tk _ (fun v hv => hv))
    obtain ⟨k1, k2⟩ := tk_inj _ _ (fun p hp => ((hg.1.2 p).mp hp).2) (fun p hp => ((hok.2 p).mp hp).2) e1
    have k3 : P.2.2 = eiN A v := by
      have h1 := okF_len hg.1
      have h2 := okF_len hok
      rw [k1, h2] at h1
      unfold eiN
      omega
    obtain ⟨i1, i2⟩ := cat_ei hF Ps V (b + P.2.2) (fun Q hQ => hP Q (List.mem_cons_of_mem _ hQ)) (fun u hu => hV u (List.mem_cons_of_mem _ hu)) e2
    refine ⟨?_, fun p hp => ?_⟩
    · show shN b P.1 ++ catL (b + P.2.2) Ps = shN b _ ++ eiL A (b + eiN A v) V
      rw [i1, k1, k3]
    · have hp : p ∈ (shN b P.1 ++ catL (b + P.2.2) Ps).flatten := hp
      rw [List.flatten_append] at hp
      show (if p.1 < b + P.2.2 then P.2.1 (p.1 - b) else catG (b + P.2.2) Ps p.1) = if p.1 < b + eiN A v then rnG A sg (vsO A (trS A v)) (p.1 - b) else eiG A sg (b + eiN A v) V p.1
      rcases List.mem_append.mp hp with h9 | h9
      · rw [shN_fl] at h9
        obtain ⟨q, q1, q2⟩ := List.mem_map.mp h9
        have q3 := ((hg.1.2 q).mp q1).1
        have q4 : p.1 = q.1 + b := by rw [← q2]
        rw [if_pos (by omega), if_pos (by omega), q4, Nat.add_sub_cancel]
        exact k2 q q1
      · have h8 := ((cat_ok Ps (b + P.2.2) (fun Q hQ => hP Q (List.mem_cons_of_mem _ hQ))).2 p).mp h9
        rw [if_neg (by omega), if_neg (by omega), i2 p h9, k3]
theorem ei_row (hF : wkF A.flatten) : ∀ (V : List Nat) (b : Nat), (∀ v, v ∈ V → v < A.flatten.length) → ∀ L, L ∈ eiL A b V → ∃ s g, s < A.flatten.length ∧ L = (rgl A s).map g ∧ ∀ w, w ∈ rgl A s → b ≤ (g w).1 ∧ eiF A f b V (g w).1 = f (crs A w) ∧ (g w).2 = uns A w ∧ eiG A sg b V (g w).1 = sg (crs A w)
  | [], b, _, L, hL => by cases hL
  | v :: V, b, hV, L, hL => by
    have hv := hV v List.mem_cons_self
    obtain ⟨t1, t2, -, -⟩ := trS_all (wkF_ok hF) hv
    rcases List.mem_append.mp hL with h9 | h9
    · obtain ⟨B, hB, e1⟩ := List.mem_map.mp h9
      obtain ⟨s, hs, e2⟩ := List.mem_map.mp hB
      refine ⟨s, fun w => shv b (rnv A (vsO A (trS A v)) w), t1.2 s hs, ?_, fun w hw => ?_⟩
      · rw [← e1, ← e2, List.map_map]
        rfl
      · have hwv := vsO_mem hs hw
        have hm : crs A w ∈ (vsO A (trS A v)).map (crs A) := List.mem_map.mpr ⟨w, hwv, rfl⟩
        have hle := num_le (A := A) hm
        obtain ⟨u, u1, u2⟩ := num_at (A := A) hm
        have hp : 0 < num A (vsO A (trS A v)) (crs A w) := by unfold num; omega
        have hlt : num A (vsO A (trS A v)) (crs A w) - 1 + b < b + eiN A v := by unfold eiN; omega
        refine ⟨Nat.le_add_left _ _, ?_, rfl, ?_⟩
        · show (if num A (vsO A (trS A v)) (crs A w) - 1 + b < b + eiN A v then f (crs A (((fm A (vsO A (trS A v)))[num A (vsO A (trS A v)) (crs A w) - 1 + b - b]?).getD 0)) else _) = _
          rw [if_pos hlt, Nat.add_sub_cancel, u1]
          show f (crs A u) = _
          rw [u2]
        · show (if num A (vsO A (trS A v)) (crs A w) - 1 + b < b + eiN A v then rnG A sg (vsO A (trS A v)) (num A (vsO A (trS A v)) (crs A w) - 1 + b - b) else _) = _
          rw [if_pos hlt, Nat.add_sub_cancel]
          exact rnG_at hwv
    · obtain ⟨s, g, s1, s2, s3⟩ := ei_row hF V (b + eiN A v) (fun u hu => hV u (List.mem_cons_of_mem _ hu)) L h9
      refine ⟨s, g, s1, s2, fun w hw => ?_⟩
      obtain ⟨g1, g2, g3, g4⟩ := s3 w hw
      refine ⟨by omega, ?_, g3, ?_⟩
      · show (if (g w).1 < b + eiN A v then _ else eiF A f (b + eiN A v) V (g w).1) = _
        rw [if_neg (by omega), g2]
      · show (if (g w).1 < b + eiN A v then _ else eiG A sg (b + eiN A v) V (g w).1) = _
        rw [if_neg (by omega), g4]
theorem ei_all : ∀ (V : List Nat) (b v w : Nat), v ∈ V → w ∈ vsO A (trS A v) → ∃ p, p ∈ (eiL A b V).flatten ∧ eiF A f b V p.1 = f (crs A w)
  | [], b, v, w, hv, _ => by cases hv
  | u :: V, b, v, w, hv, hw => by
    rcases List.mem_cons.mp hv with e | hv
    · subst e
      have hm : crs A w ∈ (vsO A (trS A v)).map (crs A) := List.mem_map.mpr ⟨w, hw, rfl⟩
      have hle := num_le (A := A) hm
      obtain ⟨u, u1, u2⟩ := num_at (A := A) hm
      have hp : 0 < num A (vsO A (trS A v)) (crs A w) := by unfold num; omega
      have hlt : num A (vsO A (trS A v)) (crs A w) - 1 + b < b + eiN A v := by unfold eiN; omega
      refine ⟨shv b (rnv A (vsO A (trS A v)) w), ?_, ?_⟩
      · show _ ∈ (shN b (rnN A (vsO A (trS A v)) (trS A v)) ++ eiL A (b + eiN A v) V).flatten
        rw [List.flatten_append, shN_fl, rnN_fl]
        exact List.mem_append_left _ (List.mem_map.mpr ⟨_, List.mem_map.mpr ⟨w, hw, rfl⟩, rfl⟩)
      · show (if num A (vsO A (trS A v)) (crs A w) - 1 + b < b + eiN A v then f (crs A (((fm A (vsO A (trS A v)))[num A (vsO A (trS A v)) (crs A w) - 1 + b - b]?).getD 0)) else _) = _
        rw [if_pos hlt, Nat.add_sub_cancel, u1]
        show f (crs A u) = _
        rw [u2]
    · obtain ⟨p, p1, p2⟩ := ei_all V (b + eiN A u) v w hv hw
      refine ⟨p, ?_, ?_⟩
      · show p ∈ (shN b _ ++ eiL A (b + eiN A u) V).flatten
        rw [List.flatten_append]
        exact List.mem_append_right _ p1
      · have hb : ∀ (V : List Nat) (b : Nat) (p : vT), p ∈ (eiL A b V).flatten → b ≤ p.1 := by
          intro V
          induction V with
          | nil => intro b p hp; cases hp
          | cons x V ih =>
            intro b p hp
            have hp : p ∈ (shN b (rnN A (vsO A (trS A x)) (trS A x)) ++ eiL A (b + eiN A x) V).flatten := hp
            rw [List.flatten_append] at hp
            rcases List.mem_append.mp hp with h9 | h9
            · rw [shN_fl] at h9
              obtain ⟨q, -, q2⟩ := List.mem_map.mp h9
              rw [← q2]
              exact Nat.le_add_left _ _
            · have := ih _ p h9
              omega
        have := hb _ _ p p1
        show (if p.1 < b + eiN A u then _ else eiF A f (b + eiN A u) V p.1) = _
        rw [if_neg (by omega), p2]
/-- onto is one to one -/
theorem onto_inj {n : Nat} {h : Nat → Nat} (hs : ∀ k, k < n → ∃ x, x < n ∧ h x = k) {x y : Nat} (hx : x < n) (hy : y < n) (e : h x = h y) : x = y := by
  refine Classical.byContradiction (fun hne => ?_)
  have := nodup_le (List.range n) (((List.range n).erase x).map h) List.nodup_range (fun k hk => by
    obtain ⟨z, z1, z2⟩ := hs k (List.mem_range.mp hk)
    by_cases ez : z = x
    · exact List.mem_map.mpr ⟨y, (List.mem_erase_of_ne (fun e9 => hne e9.symm)).mpr (List.mem_range.mpr hy), by rw [← e, ← ez]; exact z2⟩
    · exact List.mem_map.mpr ⟨z, (List.mem_erase_of_ne ez).mpr (List.mem_range.mpr z1), z2⟩)
  rw [List.length_map, List.length_erase_of_mem (List.mem_range.mpr hx), List.length_range] at this
  omega
theorem cirs_rep {X : rn_L} {q : Nat} (h : ∀ L, L ∈ X → L ≠ []) : cirs (X ++ List.replicate q []) = q := by
  unfold cirs
  rw [List.countP_append, List.countP_replicate, List.countP_eq_zero.mpr (fun L hL e => h L hL (List.isEmpty_iff.mp e))]
  simp
variable {m : Nat → Nat} {P : Nat} {Cs : List cdT} {os : List Nat}
/-- THE CODES, and what they show -/
theorem enc_iso (hi : isoN A sg f T) (hA : A.length ≤ 6) (hT : nv T) (hk : mk A m P) (hZ : cpZ T (np_parts T.1 T.2.2.1.1).2 Cs os) : ∃ A' sg', pkR A sg m P = tk sg' A' ∧ okL A' T.1 ∧ enC T Cs os = clC sg' A' ∧ A'.length = A.length ∧ ∃ f', isoV A' sg' f' T := by
  have hperm := keys_perm hi (by omega) hT hk hZ
  obtain ⟨z1, z2, z3, z4⟩ := id hZ
  have hv := hT.1
  have hc := hT.2.1
  have hd := wkF_ok hi.1
  have ecs : (List.range Cs.length).map (fun s => Cs.getD s (0, [])) = Cs := by
    apply List.ext_getElem?
    intro i
    rw [List.getElem?_map]
    by_cases h : i < Cs.length
    · rw [List.getElem?_range h, List.getElem?_eq_getElem h]
      show some (Cs.getD i (0, [])) = _
      rw [List.getD_eq_getElem?_getD, List.getElem?_eq_getElem h]
      rfl
    · rw [List.getElem?_eq_none (by rw [List.length_range]; omega), List.getElem?_eq_none (by omega)]
      rfl
  have hos : (os.map (fun s => Cs.getD s (0, []))).Perm Cs := by
    have h1 := z3.map (fun s => Cs.getD s (0, []))
    rw [← z1, ecs] at h1
    exact h1
  have hKs : ∀ C, C ∈ os.map (fun s => Cs.getD s (0, [])) → ∃ B sgB, gp B C.1 ∧ C.2 = tk sgB B := by
    intro C hC
    have hC2 := hos.mem_iff.mp hC
    obtain ⟨r, hr⟩ := List.getElem?_of_mem hC2
    have hr2 := (List.getElem?_eq_some_iff.mp hr).1
    obtain ⟨p1, p2, p3, p4⟩ := parts_I hv hc
    obtain ⟨k, k1, k2⟩ := p3 r (by rw [← z1]; exact hr2)
    obtain ⟨v, v1, v2⟩ := lbv_sur hi k1
    obtain ⟨-, -, q3⟩ := part_key hi (by omega) hv hk v1 (by rw [v2]; exact k2) (z2 r C hr).1
    exact q3
  obtain ⟨Ps, hP1, hP2⟩ := prt_list hKs
  have hdP : (os.map (fun s => Cs.getD s (0, []))).map dbl = Ps.map (fun P => (2 * P.2.2, tk P.2.1 P.1)) := by
    rw [hP1, List.map_map]
    rfl
  have hsel := sel_perm (R := rwL A sg m P)
  have heq : (sel (rwL A sg m P) (rwL A sg m P).length (fun _ => false)).map (rAt (rwL A sg m P)) = Ps.map (fun P => (2 * P.2.2, tk P.2.1 P.1)) := by
    rw [← hdP]
    refine pw_eq hsel.2 ?_ (hsel.1.trans (((hos.map dbl).trans hperm).symm))
    rw [List.pairwise_map]
    exact (srt_pw z4).imp dbl_cmp
  have hpk := pkT_cat _ Ps 0 heq hP2
  obtain ⟨s1, s2⟩ := prt_sums Ps hP2
  obtain ⟨r1, r2⟩ := rwL_tot (sg := sg) hd hk
  have hpr : (Ps.map (fun P => (2 * P.2.2, tk P.2.1 P.1))).Perm (rwL A sg m P) := by
    rw [← heq]
    exact hsel.1
  have t1 := (hpr.map (fun r => r.1)).sum_nat
  have t2 := (hpr.map (fun r => r.2.length)).sum_nat
  rw [s1, r2] at t1
  rw [s2] at t2
  have hcir := cir_eq hk
  have hlen := hi.2.1
  have hcs : cirs A = T.2.1 := hi.2.2.2.2.2.2.2
  have htc : totC Ps = T.1 := by omega
  have htl : totL Ps + T.2.1 = A.length := by omega
  obtain ⟨c1, c2, c3, c4⟩ := catA_ok (q := T.2.1) hP2 (by omega) (by omega)
  have c1' : okL (catA Ps T.2.1) T.1 := by rw [← htc]; exact c1
  refine ⟨catA Ps T.2.1, catG 0 Ps, ?_, c1', ?_, by rw [c4]; exact htl, ?_⟩
  · unfold pkR
    rw [hpk, c3, hcir, hcs]
  · rw [c2, htc]
    unfold enC
    congr 2
    have : cdR Cs os = rowP Ps := by
      have h1 := congrArg (List.map (fun C : cdT => C.2)) hP1
      rw [List.map_map, List.map_map] at h1
      exact h1
    rw [this]
  -- a start for each part
  · have hst : ∀ p, ∃ v, pvl A m p A.flatten.length ≠ [] → v < A.flatten.length ∧ m (rn_c A v) = p ∧ lsC A sg (pvl A m p A.flatten.length) = some (cdv A sg v) := by
      intro p
      by_cases e : pvl A m p A.flatten.length = []
      · exact ⟨0, fun h9 => absurd e h9⟩
      · obtain ⟨U, hU⟩ := lsC_ne (sg := sg) e
        obtain ⟨v, v1, v2⟩ := lsC_mem _ hU
        have := pvl_m.mp v1
        exact ⟨v, fun _ => ⟨this.1, this.2, by rw [hU, v2]⟩⟩
    obtain ⟨st, hst⟩ := Classical.skolem.mp hst
    have hRe := rwL_eq (A := A) (sg := sg) (m := m) P
    generalize hFl : (List.range P).filter (fun p => !(pvl A m p A.flatten.length).isEmpty) = Fl at hRe
    have Fl_in : ∀ p, p ∈ Fl → p < P ∧ pvl A m p A.flatten.length ≠ [] := fun p hp => by
      rw [← hFl] at hp
      obtain ⟨h1, h2⟩ := List.mem_filter.mp hp
      exact ⟨List.mem_range.mp h1, fun e => by rw [e] at h2; cases h2⟩
    have hRl : (rwL A sg m P).length = Fl.length := by rw [hRe, List.length_map]
    have rA : ∀ i (h : i < Fl.length), (rAt (rwL A sg m P) i).2 = cdv A sg (st Fl[i]) := fun i h => by
      unfold rAt
      rw [hRe, List.getElem?_map, List.getElem?_eq_getElem h]
      show (lsC A sg (pvl A m Fl[i] A.flatten.length)).getD [] = _
      rw [(hst _ (Fl_in _ (List.getElem_mem h)).2).2.2]
      rfl
    obtain ⟨sp1, sp2, -⟩ := sel_spec (R := rwL A sg m P) (rwL A sg m P).length (fun _ => false) (rem_1 _)
    generalize hse : sel (rwL A sg m P) (rwL A sg m P).length (fun _ => false) = se at *
    have se_in : ∀ i, i ∈ se ↔ i < Fl.length := fun i => by
      rw [sp2 i, hRl]
      exact ⟨fun h => h.1, fun h => ⟨h, rfl⟩⟩
    let V := se.map (fun i => st (Fl.getD i 0))
    have hV : ∀ v, v ∈ V → v < A.flatten.length := fun v hv9 => by
      obtain ⟨i, i1, i2⟩ := List.mem_map.mp hv9
      have h := (se_in i).mp i1
      rw [← i2, List.getD_eq_getElem?_getD, List.getElem?_eq_getElem h]
      exact (hst _ (Fl_in _ (List.getElem_mem h)).2).1
    have hrow : Ps.map (fun P => tk P.2.1 P.1) = V.map (cdv A sg) := by
      have h1 := congrArg (List.map (fun r : Nat × List Nat => r.2)) heq
      rw [List.map_map, List.map_map] at h1
      have h2 : Ps.map (fun P => tk P.2.1 P.1) = se.map ((fun r : Nat × List Nat => r.2) ∘ rAt (rwL A sg m P)) := h1.symm
      rw [h2]
      show _ = (se.map (fun i => st (Fl.getD i 0))).map (cdv A sg)
      rw [List.map_map]
      refine List.map_congr_left (fun i hi9 => ?_)
      have h := (se_in i).mp hi9
      show (rAt (rwL A sg m P) i).2 = cdv A sg (st (Fl.getD i 0))
      rw [rA i h, List.getD_eq_getElem?_getD, List.getElem?_eq_getElem h]
      rfl
    obtain ⟨ce1, ce2⟩ := cat_ei hi.1 Ps V 0 hP2 hV hrow
    have hrows : ∀ L, L ∈ catL 0 Ps → ∃ s g, s < A.flatten.length ∧ L = (rgl A s).map g ∧ ∀ w, w ∈ rgl A s → 0 ≤ (g w).1 ∧ eiF A f 0 V (g w).1 = f (crs A w) ∧ (g w).2 = uns A w ∧ eiG A sg 0 V (g w).1 = sg (crs A w) := fun L hL => ei_row hi.1 V 0 hV L (by rw [← ce1]; exact hL)
    have hcov : ∀ w, w < A.flatten.length → ∃ p, p ∈ (catL 0 Ps).flatten ∧ eiF A f 0 V p.1 = f (crs A w) := by
      intro w hw
      have hcw := (rn_c_in A w hw).1
      have hpP := hk.1 _ hcw
      have hmem : w ∈ pvl A m (m (rn_c A w)) A.flatten.length := pvl_m.mpr ⟨hw, rfl⟩
      have hFm : m (rn_c A w) ∈ Fl := by
        rw [← hFl]
        refine List.mem_filter.mpr ⟨List.mem_range.mpr hpP, ?_⟩
        cases e : pvl A m (m (rn_c A w)) A.flatten.length with
        | nil => rw [e] at hmem; cases hmem
        | cons a X => rfl
      obtain ⟨i, i1, i2⟩ := List.mem_iff_getElem.mp hFm
      obtain ⟨q1, q2, -⟩ := hst (m (rn_c A w)) (Fl_in _ hFm).2
      have hsv : st (m (rn_c A w)) ∈ V := List.mem_map.mpr ⟨i, (se_in i).mpr i1, by rw [List.getD_eq_getElem?_getD, List.getElem?_eq_getElem i1, i2]; rfl⟩
      obtain ⟨u1, u2, -, -⟩ := trS_all hd q1
      have hin := vsO_of u1 hw ((trS_part hd hk q1 hcw).mpr q2.symm)
      rw [ce1]
      exact ei_all V 0 _ w hsv hin
    have fl9 : (catA Ps T.2.1).flatten = (catL 0 Ps).flatten := by
      unfold catA
      rw [List.flatten_append, fl_nil, List.append_nil]
    have hent : ∀ p, p ∈ (catL 0 Ps).flatten → ∃ w, w < A.flatten.length ∧ eiF A f 0 V p.1 = f (crs A w) ∧ eiG A sg 0 V p.1 = sg (crs A w) := by
      intro p hp
      obtain ⟨L, hL, hpL⟩ := List.mem_flatten.mp hp
      obtain ⟨s, g, s1, s2, s3⟩ := hrows L hL
      rw [s2] at hpL
      obtain ⟨w, w1, w2⟩ := List.mem_map.mp hpL
      obtain ⟨-, g2, -, g4⟩ := s3 w w1
      rw [w2] at g2 g4
      exact ⟨w, (rgl_c s1 w1).2, g2, g4⟩
    have hlt : ∀ p, p ∈ (catL 0 Ps).flatten → eiF A f 0 V p.1 < T.1 := fun p hp => by
      obtain ⟨w, w1, w2, -⟩ := hent p hp
      rw [w2]
      exact hi.2.2.2.1 w w1
    have hokA := c1'.1
    rw [fl9] at hokA
    refine ⟨eiF A f 0 V, isoV_of (isoS_iff.mp ⟨okF_wk (by omega) c1'.1, okF_len c1'.1, hc, ?_, ?_, ?_, ?_, ?_⟩) hv⟩
    · intro p hp
      rw [fl9] at hp
      exact hlt p hp
    · intro p q hp hq e
      rw [fl9] at hp hq
      refine onto_inj (n := T.1) (h := eiF A f 0 V) (fun k hk9 => ?_) ((hokA.2 p).mp hp).1 ((hokA.2 q).mp hq).1 e
      obtain ⟨w, w1, w2⟩ := lbv_sur hi (show 2 * k < 2 * T.1 by omega)
      obtain ⟨p', p1, p2⟩ := hcov w w1
      refine ⟨p'.1, ((hokA.2 p').mp p1).1, ?_⟩
      have := (lbv_hf hi w1).1
      rw [w2] at this
      rw [p2, ← this]
      omega
    · intro L hL p hpL
      rcases List.mem_append.mp hL with h9 | h9
      · have nL : L.Nodup := L_nd hokA.1 h9
        obtain ⟨s, g, s1, s2, s3⟩ := hrows L h9
        rw [s2] at hpL nL ⊢
        obtain ⟨w, w1, rfl⟩ := List.mem_map.mp hpL
        rw [rgl_sc s1 nL w1]
        have hw := rgl_c s1 w1
        have hnx : rn_nx A w ∈ rgl A s := rgl_all s1 (rnx_lt hw.2) (by rw [c_nx hw.2]; exact hw.1)
        obtain ⟨-, g2, g3, -⟩ := s3 w w1
        obtain ⟨-, k2, k3, -⟩ := s3 _ hnx
        unfold gl
        rw [g2, g3, k2, k3]
        exact hi.2.2.2.2.2.1 w hw.2
      · rw [List.eq_of_mem_replicate h9] at hpL
        cases hpL
    · intro p hp
      rw [fl9] at hp
      obtain ⟨w, w1, w2, w3⟩ := hent p hp
      rw [ce2 p hp, w2, w3]
      exact hi.2.2.2.2.2.2.1 w w1
    · refine cirs_rep (fun L hL e => ?_)
      obtain ⟨s, g, s1, s2, -⟩ := hrows L hL
      rw [e] at s2
      have h1 := congrArg List.length s2
      rw [List.length_map, rgl_len] at h1
      have := rlen_pos s1
      simp at h1
      omega
end EI
end
