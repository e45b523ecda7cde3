/-! chain: maps between rows; what is left of kernels by images -/
/-- the image of a row, the images of the places being d -/
def ap9 (d : Nat → vc9) : Nat → vc9 → vc9
  | 0, _ => fun _ => 0
  | n + 1, v => fun j => ap9 d n v j + v n * d n j
def rwl9 (d : Nat → vc9) : Nat → List vc9
  | 0 => []
  | n + 1 => d n :: rwl9 d n
section XCH3
variable {p : Int} {n m : Nat} {d : Nat → vc9} {u v w : vc9}
theorem ap_add : ∀ {n : Nat} (j : Nat), ap9 d n (fun i => u i + v i) j = ap9 d n u j + ap9 d n v j
  | 0, _ => rfl
  | n + 1, j => by
    show ap9 d n (fun i => u i + v i) j + (u n + v n) * d n j = ap9 d n u j + u n * d n j + (ap9 d n v j + v n * d n j)
    rw [ap_add j, Int.add_mul]
    omega
theorem ap_mul (c : Int) : ∀ {n : Nat} (j : Nat), ap9 d n (fun i => c * u i) j = c * ap9 d n u j
  | 0, _ => (Int.mul_zero c).symm
  | n + 1, j => by
    show ap9 d n (fun i => c * u i) j + c * u n * d n j = c * (ap9 d n u j + u n * d n j)
    rw [ap_mul c j, Int.mul_add, Int.mul_assoc]
theorem ap_q : ∀ {n : Nat}, zq9 p n u v → zq9 p m (ap9 d n u) (ap9 d n v)
  | 0, _ => zq_r
  | n + 1, h => zq_a (ap_q (n := n) (fun i hi => h i (by omega))) (fun j hj => by
    show p ∣ u n * d n j - v n * d n j
    rw [← Int.sub_mul]
    exact dvl9 _ (h n (by omega)))
theorem ap_0 : ∀ {n : Nat} (j : Nat), ap9 d n (fun _ => 0) j = 0
  | 0, _ => rfl
  | n + 1, j => by
    show ap9 d n (fun _ => 0) j + 0 * d n j = 0
    rw [ap_0 j, Int.zero_mul]
    rfl
theorem ap_cg : ∀ {n : Nat}, (∀ i, i < n → u i = v i) → ap9 d n u = ap9 d n v
  | 0, _ => rfl
  | n + 1, h => by
    show (fun j => ap9 d n u j + u n * d n j) = fun j => ap9 d n v j + v n * d n j
    rw [ap_cg (n := n) (fun i hi => h i (by omega)), h n (by omega)]
/-- spans are images -/
theorem sp_ap : ∀ {n : Nat} {w : vc9}, sp9 p m (rwl9 d n) w ↔ ∃ v, zq9 p m w (ap9 d n v)
  | 0, w => by
    constructor
    · rintro ⟨cs, h⟩
      have e : rwl9 d 0 = [] := rfl
      rw [e, lc_nil] at h
      exact ⟨fun _ => 0, h⟩
    · rintro ⟨v, h⟩
      exact sp_q h sp_0
  | n + 1, w => by
    constructor
    · intro h
      obtain ⟨c, w', h1, h2⟩ := sp_cons h
      obtain ⟨v, hv⟩ := sp_ap.mp h1
      refine ⟨fun i => if i = n then c else v i, zq_t h2 ?_⟩
      have e : ap9 d n (fun i => if i = n then c else v i) = ap9 d n v := ap_cg (fun i hi => if_neg (by omega))
      intro j hj
      show p ∣ c * d n j + w' j - (ap9 d n (fun i => if i = n then c else v i) j + (if n = n then c else v n) * d n j)
      rw [e, if_pos rfl]
      have := hv j hj
      rw [show c * d n j + w' j - (ap9 d n v j + c * d n j) = w' j - ap9 d n v j by omega]
      exact this
    · rintro ⟨v, h⟩
      exact sp_q h (sp_a (sp_c (sp_ap.mpr ⟨v, zq_r⟩)) (sp_m (v n) sp_h))
theorem ap_sp (v : vc9) : sp9 p m (rwl9 d n) (ap9 d n v) := sp_ap.mpr ⟨v, zq_r⟩
def kr9 (p : Int) (m : Nat) (d : Nat → vc9) (n : Nat) (v : vc9) : Prop := zq9 p m (ap9 d n v) (fun _ => 0)
theorem ap_cut {k : Nat} : ∀ {n : Nat}, k ≤ n → (∀ j, k ≤ j → j < n → p ∣ v j) → zq9 p m (ap9 d n v) (ap9 d k v)
  | 0, h, _ => by
    rw [show k = 0 by omega]
    exact zq_r
  | n + 1, h, hz => by
    by_cases e : k = n + 1
    · rw [e]
      exact zq_r
    · refine zq_t ?_ (ap_cut (n := n) (by omega) (fun j h1 h2 => hz j h1 (by omega)))
      intro j hj
      show p ∣ ap9 d n v j + v n * d n j - ap9 d n v j
      rw [show ap9 d n v j + v n * d n j - ap9 d n v j = v n * d n j by omega]
      exact dvl9 _ (hz n (by omega) (by omega))
theorem nu9 (h2p : 2 ≤ p) : ¬ p ∣ -1 := fun h9 => by
  have := Int.le_of_dvd (by decide) (Int.dvd_neg.mpr h9)
  omega
/-- kernel and rank -/
theorem kr_dm (h2p : 2 ≤ p) (hi : iv9 p) : dm9 p n (kr9 p m d n) + rk9 p m (rwl9 d n) = n := by
  have e1 : dm9 p n (kr9 p m d n) = cn9 (fun i => sp9 p m (rwl9 d i) (d i)) n := cn_cg (fun i hi9 => by
    constructor
    · rintro ⟨-, v, v1, v2, v3⟩
      obtain ⟨b, hb⟩ := hi (v i) v2
      have h1 : zq9 p m (ap9 d (i + 1) v) (fun _ => 0) := zq_t (zq_s (ap_cut (by omega) (fun j h1 h2 => v3 j (by omega) h2))) v1
      refine sp_ap.mpr ⟨fun t => -b * v t, fun j hj => ?_⟩
      have h2 := h1 j hj
      have h2 : p ∣ ap9 d i v j + v i * d i j - 0 := h2
      rw [ap_mul (-b) j]
      have h3 := dvr9 b h2
      have h4 := dvl9 (d i j) hb
      have h5 := Int.dvd_sub h3 h4
      rw [show b * (ap9 d i v j + v i * d i j - 0) - (v i * b - 1) * d i j = d i j - -b * ap9 d i v j by
        rw [Int.sub_zero, Int.mul_add, Int.sub_mul, Int.one_mul, Int.neg_mul, ← Int.mul_assoc b (v i), Int.mul_comm b (v i)]
        omega] at h5
      exact h5
    · intro h
      obtain ⟨c, hc⟩ := sp_ap.mp h
      refine ⟨hi9, fun t => if t < i then c t else if t = i then -1 else 0, ?_, ?_, ?_⟩
      · have h1 : zq9 p m (ap9 d n (fun t => if t < i then c t else if t = i then -1 else 0)) (ap9 d (i + 1) (fun t => if t < i then c t else if t = i then -1 else 0)) := ap_cut (by omega) (fun j j1 j2 => by
          show p ∣ (if j < i then c j else if j = i then -1 else 0)
          rw [if_neg (by omega), if_neg (by omega)]
          exact Int.dvd_zero p)
        refine zq_t h1 (fun j hj => ?_)
        show p ∣ ap9 d i (fun t => if t < i then c t else if t = i then -1 else 0) j + (if i < i then c i else if i = i then -1 else 0) * d i j - 0
        rw [ap_cg (v := c) (fun t ht => if_pos ht), if_neg (Nat.lt_irrefl i), if_pos rfl]
        have := Int.dvd_neg.mpr (hc j hj)
        rw [show -(d i j - ap9 d i c j) = ap9 d i c j + -1 * d i j - 0 by omega] at this
        exact this
      · show ¬ p ∣ (if i < i then c i else if i = i then -1 else 0)
        rw [if_neg (Nat.lt_irrefl i), if_pos rfl]
        intro h9
        exact nu9 h2p h9
      · intro j j1 j2
        show p ∣ (if j < i then c j else if j = i then -1 else 0)
        rw [if_neg (by omega), if_neg (by omega)]
        exact Int.dvd_zero p)
  have e2 : ∀ k, rk9 p m (rwl9 d k) = cn9 (fun i => ¬ sp9 p m (rwl9 d i) (d i)) k := by
    intro k
    induction k with
    | zero => rfl
    | succ k ih =>
      by_cases c : sp9 p m (rwl9 d k) (d k)
      · rw [cn_n (P := fun i => ¬ sp9 p m (rwl9 d i) (d i)) (fun h9 => h9 c), ← ih]
        exact rk_y c
      · rw [cn_y (P := fun i => ¬ sp9 p m (rwl9 d i) (d i)) c, ← ih]
        exact rk_n c
  rw [e1, e2]
  exact cn_not
end XCH3
/-- closed under sums, multiples and likeness -/
def sbs9 (p : Int) (n : Nat) (S : vc9 → Prop) : Prop := S (fun _ => 0) ∧ (∀ u v, S u → S v → S (fun i => u i + v i)) ∧ (∀ c u, S u → S (fun i => c * u i)) ∧ ∀ u v, zq9 p n u v → S v → S u
section XCH4
variable {p : Int} {n n' m : Nat} {S S' : vc9 → Prop} {d : Nat → vc9}
theorem sub_sp (vs : List vc9) : sbs9 p n (sp9 p n vs) := ⟨sp_0, fun _ _ => sp_a, fun c _ => sp_m c, fun _ _ => sp_q⟩
theorem sub_kr : sbs9 p n (kr9 p m d n) := by
  refine ⟨fun j hj => ?_, fun u v hu hv => ?_, fun c u hu => ?_, fun u v h hv => zq_t (ap_q h) hv⟩
  · rw [ap_0]
    exact Int.dvd_zero p
  · refine zq_t (fun j hj => ?_) (zq_a hu hv)
    rw [ap_add]
    show p ∣ ap9 d n u j + ap9 d n v j - (ap9 d n u j + ap9 d n v j)
    rw [Int.sub_self]
    exact Int.dvd_zero p
  · intro j hj
    rw [ap_mul]
    have := dvr9 c (hu j hj)
    rw [Int.mul_sub, Int.mul_zero] at this
    exact this
theorem sub_lc (hS : sbs9 p n S) : ∀ (cs : List Int) (vs : List vc9), (∀ v, v ∈ vs → S v) → S (lc9 cs vs)
  | [], vs, _ => by
    rw [lc_z]
    exact hS.1
  | c :: cs, [], _ => hS.1
  | c :: cs, v :: vs, h => hS.2.1 _ _ (hS.2.2.1 c v (h v List.mem_cons_self)) (sub_lc hS cs vs (fun t ht => h t (List.mem_cons_of_mem _ ht)))
theorem sub_in (hS : sbs9 p n S) {vs : List vc9} {w : vc9} (h : ∀ v, v ∈ vs → S v) (hw : sp9 p n vs w) : S w := by
  obtain ⟨cs, hc⟩ := hw
  exact hS.2.2.2 _ _ hc (sub_lc hS cs vs h)
/-- a set closed so is a span -/
theorem sub_ex (hi : iv9 p) (hS : sbs9 p n S) : ∃ vs : List vc9, (∀ v, v ∈ vs → S v) ∧ ∀ w, S w → sp9 p n vs w := by
  have key : ∀ k, k ≤ n → ∃ vs : List vc9, (∀ v, v ∈ vs → S v) ∧ ∀ w, S w → (∀ j, k ≤ j → j < n → p ∣ w j) → sp9 p n vs w := by
    intro k
    induction k with
    | zero =>
      intro _
      refine ⟨[], fun v hv => absurd hv List.not_mem_nil, fun w _ h => sp_q (fun i hi => ?_) sp_0⟩
      show p ∣ w i - 0
      rw [Int.sub_zero]
      exact h i (by omega) hi
    | succ k ih =>
      intro hk
      obtain ⟨vs, h1, h2⟩ := ih (by omega)
      by_cases c : Ld9 p n S k
      · obtain ⟨-, v, v1, v2, v3⟩ := c
        obtain ⟨b, hb⟩ := hi (v k) v2
        refine ⟨v :: vs, fun u hu => ?_, fun w hw hz => ?_⟩
        · rcases List.mem_cons.mp hu with e | e
          · rw [e]
            exact v1
          · exact h1 u e
        · have s1 : S (fun i => w i + (-(w k * b)) * v i) := hS.2.1 _ _ hw (hS.2.2.1 _ _ v1)
          have s2 := h2 _ s1 (fun j j1 j2 => by
            show p ∣ w j + -(w k * b) * v j
            by_cases e : j = k
            · rw [e]
              have := dvr9 (-(w k)) hb
              rw [show -(w k) * (v k * b - 1) = w k + -(w k * b) * v k by
                rw [Int.mul_sub, Int.mul_one, Int.neg_mul, Int.neg_mul, Int.mul_comm (v k) b, ← Int.mul_assoc]
                omega] at this
              exact this
            · exact Int.dvd_add (hz j (by omega) j2) (dvr9 _ (v3 j (by omega) j2)))
          refine sp_q (fun i hi => ?_) (sp_a (sp_c (v := v) s2) (sp_m (w k * b) sp_h))
          show p ∣ w i - (w i + -(w k * b) * v i + w k * b * v i)
          rw [show w i - (w i + -(w k * b) * v i + w k * b * v i) = 0 by rw [Int.neg_mul]; omega]
          exact Int.dvd_zero p
      · refine ⟨vs, h1, fun w hw hz => h2 w hw (fun j j1 j2 => ?_)⟩
        by_cases e : j = k
        · rw [e]
          by_cases c9 : p ∣ w k
          · exact c9
          · exact absurd ⟨by omega, w, hw, c9, fun t t1 t2 => hz t (by omega) t2⟩ c
        · exact hz j (by omega) j2
  obtain ⟨vs, h1, h2⟩ := key n (Nat.le_refl n)
  exact ⟨vs, h1, fun w hw => h2 w hw (fun j j1 j2 => absurd j2 (by omega))⟩
theorem dm_rk (hp : pr9 p) (hi : iv9 p) (hS : sbs9 p n S) {vs : List vc9} (h1 : ∀ v, v ∈ vs → S v) (h2 : ∀ w, S w → sp9 p n vs w) : dm9 p n S = rk9 p n vs := by
  rw [rk_dm hp hi]
  exact dm_cg (fun w => ⟨h2 w, sub_in hS h1⟩)
theorem lc_ap {F : Nat → vc9} (j : Nat) : ∀ (cs : List Int) (zs : List vc9), ap9 F n (lc9 cs zs) j = lc9 cs (zs.map (ap9 F n)) j
  | [], zs => by
    rw [lc_z, lc_z]
    exact ap_0 j
  | c :: cs, [] => ap_0 j
  | c :: cs, z :: zs => by
    show ap9 F n (fun i => c * z i + lc9 cs zs i) j = c * ap9 F n z j + lc9 cs (zs.map (ap9 F n)) j
    rw [ap_add, ap_mul, lc_ap j cs zs]
theorem sp_app : ∀ {xs bs : List vc9} {w : vc9}, sp9 p n (xs ++ bs) w ↔ ∃ cs b, sp9 p n bs b ∧ zq9 p n w (fun i => lc9 cs xs i + b i)
  | [], bs, w => by
    constructor
    · intro h
      refine ⟨[], w, h, fun i _ => ?_⟩
      show p ∣ w i - (0 + w i)
      rw [Int.zero_add, Int.sub_self]
      exact Int.dvd_zero p
    · rintro ⟨cs, b, h1, h2⟩
      refine sp_q (zq_t h2 (fun i _ => ?_)) h1
      rw [lc_nil]
      show p ∣ 0 + b i - b i
      rw [Int.zero_add, Int.sub_self]
      exact Int.dvd_zero p
  | x :: xs, bs, w => by
    constructor
    · intro h
      obtain ⟨c, w', h1, h2⟩ := sp_cons h
      obtain ⟨cs, b, h3, h4⟩ := sp_app.mp h1
      refine ⟨c :: cs, b, h3, zq_t h2 (fun i hi => ?_)⟩
      have := h4 i hi
      show p ∣ c * x i + w' i - (c * x i + lc9 cs xs i + b i)
      rw [show c * x i + w' i - (c * x i + lc9 cs xs i + b i) = w' i - (lc9 cs xs i + b i) by omega]
      exact this
    · rintro ⟨cs, b, h1, h2⟩
      have hb : sp9 p n ((x :: xs) ++ bs) b := sp_tr h1 (fun u hu => sp_in (List.mem_append_right _ hu))
      exact sp_q h2 (sp_a (lc_sp cs (x :: xs) (fun u hu => sp_in (List.mem_append_left _ hu))) hb)
/-- a map that is one to one and onto between what is left -/
theorem hd_eq (hp : pr9 p) (hi : iv9 p) {F : Nat → vc9} {Z Z' B B' : vc9 → Prop} (hZ : sbs9 p n Z) (hZ' : sbs9 p n' Z') (hB : sbs9 p n B) (hB' : sbs9 p n' B') (bZ : ∀ v, B v → Z v) (bZ' : ∀ v, B' v → Z' v) (fZ : ∀ v, Z' v → Z (ap9 F n' v)) (fB : ∀ v, B' v → B (ap9 F n' v)) (on : ∀ z, Z z → ∃ z', Z' z' ∧ B (fun i => z i - ap9 F n' z' i)) (one : ∀ z', Z' z' → B (ap9 F n' z') → B' z') : dm9 p n Z + dm9 p n' B' = dm9 p n' Z' + dm9 p n B := by
  obtain ⟨zs, z1, z2⟩ := sub_ex hi hZ'
  obtain ⟨bs, b1, b2⟩ := sub_ex hi hB
  obtain ⟨cs', c1, c2⟩ := sub_ex hi hB'
  have e1 : dm9 p n B = rk9 p n bs := dm_rk hp hi hB b1 b2
  have e2 : dm9 p n' B' = rk9 p n' cs' := dm_rk hp hi hB' c1 c2
  have e3 : dm9 p n' Z' = rk9 p n' (zs ++ cs') := dm_rk hp hi hZ' (fun v hv => (List.mem_append.mp hv).elim (z1 v) (fun h => bZ' v (c1 v h))) (fun w hw => sp_tr (z2 w hw) (fun u hu => sp_in (List.mem_append_left _ hu)))
  have e4 : dm9 p n Z = rk9 p n (zs.map (ap9 F n') ++ bs) := dm_rk hp hi hZ (fun v hv => by
    rcases List.mem_append.mp hv with h | h
    · obtain ⟨z, h1, rfl⟩ := List.mem_map.mp h
      exact fZ z (z1 z h1)
    · exact bZ v (b1 v h)) (fun w hw => by
    obtain ⟨z', h1, h2⟩ := on w hw
    obtain ⟨as, ha⟩ := z2 z' h1
    refine sp_app.mpr ⟨as, _, b2 _ h2, fun i hi9 => ?_⟩
    have h3 := ap_q (d := F) ha i hi9
    rw [lc_ap] at h3
    have := h3
    show p ∣ w i - (lc9 as (zs.map (ap9 F n')) i + (w i - ap9 F n' z' i))
    rw [show w i - (lc9 as (zs.map (ap9 F n')) i + (w i - ap9 F n' z' i)) = ap9 F n' z' i - lc9 as (zs.map (ap9 F n')) i by omega]
    exact this)
  rw [e1, e2, e3, e4]
  -- step by step
  have key : ∀ zs : List vc9, (∀ z, z ∈ zs → Z' z) → rk9 p n (zs.map (ap9 F n') ++ bs) + rk9 p n' cs' = rk9 p n' (zs ++ cs') + rk9 p n bs := by
    intro zs
    induction zs with
    | nil =>
      intro _
      show rk9 p n bs + rk9 p n' cs' = rk9 p n' cs' + rk9 p n bs
      omega
    | cons z zs ih =>
      intro hz
      have ih9 := ih (fun t ht => hz t (List.mem_cons_of_mem _ ht))
      have hzs : ∀ t, t ∈ zs → Z' t := fun t ht => hz t (List.mem_cons_of_mem _ ht)
      have ifc9 : sp9 p n (zs.map (ap9 F n') ++ bs) (ap9 F n' z) ↔ sp9 p n' (zs ++ cs') z := by
        constructor
        · intro h
          obtain ⟨as, b, h1, h2⟩ := sp_app.mp h
          have hB9 : B b := sub_in hB b1 h1
          -- z - lc as zs
          have h3 : Z' (fun i => z i + (-1) * lc9 as zs i) := hZ'.2.1 _ _ (hz z List.mem_cons_self) (hZ'.2.2.1 _ _ (sub_lc hZ' as zs hzs))
          have h4 : B (ap9 F n' (fun i => z i + (-1) * lc9 as zs i)) := hB.2.2.2 _ _ (fun i hi9 => by
            rw [ap_add, ap_mul, lc_ap]
            have := h2 i hi9
            rw [show ap9 F n' z i + -1 * lc9 as (zs.map (ap9 F n')) i - b i = ap9 F n' z i - (lc9 as (zs.map (ap9 F n')) i + b i) by omega]
            exact this) hB9
          refine sp_app.mpr ⟨as, _, c2 _ (one _ h3 h4), fun i _ => ?_⟩
          show p ∣ z i - (lc9 as zs i + (z i + -1 * lc9 as zs i))
          rw [show z i - (lc9 as zs i + (z i + -1 * lc9 as zs i)) = 0 by omega]
          exact Int.dvd_zero p
        · intro h
          obtain ⟨as, b, h1, h2⟩ := sp_app.mp h
          have hB9 : B' b := sub_in hB' c1 h1
          refine sp_app.mpr ⟨as, ap9 F n' b, b2 _ (fB b hB9), fun i hi9 => ?_⟩
          have := ap_q (d := F) h2 i hi9
          rw [ap_add, lc_ap] at this
          exact this
      show rk9 p n (ap9 F n' z :: (zs.map (ap9 F n') ++ bs)) + rk9 p n' cs' = rk9 p n' (z :: (zs ++ cs')) + rk9 p n bs
      by_cases c : sp9 p n' (zs ++ cs') z
      · rw [rk_y (ifc9.mpr c), rk_y c]
        exact ih9
      · rw [rk_n (fun h9 => c (ifc9.mp h9)), rk_n c]
        omega
  exact key zs z1
end XCH4
