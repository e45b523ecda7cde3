/-! skein: what is left of it -/
theorem w_rdN {O : Type} {Q : O → Prop} {i : Nat} {x : Int32} {E : Nat → Nat → Nat → Option O} (hx : x = nI i) (hi : i < 15) (H : Tt (E (1000 * (i + 4))) Q) : Tt (fun K k => rdN x (fun n => E n K k)) Q := by
  have e : (fun K k => rdN x (fun n => E n K k)) = E (1000 * (i + 4)) := by
    funext K k
    unfold rdN
    rw [hx, nI_clamp (by omega), if_neg (fun h9 => h9.elim (nI_pos (by omega)) (by omega))]
  rw [e]
  exact H
theorem pnL {i : Nat} (hi : i < 15) : mw_net (1000 * (i + 4)) := ⟨i + 3, by omega, by omega⟩
/-- the crossings met before k are met over; f crossings are not met before k -/
def gPre (A : rn_L) (k : Nat) : Prop := ∀ v, v < k → v < A.flatten.length → (∀ w, w < v → crs A w ≠ crs A v) → uns A v = 0
def ouT (A : rn_L) (k f : Nat) : Prop := ∃ R : List Nat, R.length ≤ f ∧ ∀ v, v < A.flatten.length → (∃ w, w < k ∧ w < A.flatten.length ∧ crs A w = crs A v) ∨ crs A v ∈ R
/-- no crossing is left: all is good -/
theorem ou_0 {A : rn_L} {k v : Nat} (hg : gPre A k) (ho : ouT A k 0) (hv : v < A.flatten.length) (hf : ∀ w, w < v → crs A w ≠ crs A v) : uns A v = 0 := by
  obtain ⟨R, h1, h2⟩ := ho
  have hR : R = [] := List.length_eq_zero_iff.mp (by omega)
  rcases h2 v hv with ⟨w, hw1, hw2, hw3⟩ | h9
  · by_cases hvk : v < k
    · exact hg v hvk hv hf
    · exact absurd hw3 (hf w (by omega))
  · rw [hR] at h9
    cases h9
/-- the first bad visit lies behind the prefix, and its crossing is one of those left -/
theorem ou_bad {A : rn_L} {k f v : Nat} (hg : gPre A k) (ho : ouT A k f) (hv : v < A.flatten.length) (hf : ∀ w, w < v → crs A w ≠ crs A v) (hb : uns A v ≠ 0) : k ≤ v ∧ ∃ R : List Nat, R.length + 1 ≤ f ∧ ∀ u, u < A.flatten.length → crs A u ≠ crs A v → (∃ w, w < k ∧ w < A.flatten.length ∧ crs A w = crs A u) ∨ crs A u ∈ R := by
  have hkv : k ≤ v := by
    rcases Nat.lt_or_ge v k with h9 | h9
    · exact absurd (hg v h9 hv hf) hb
    · exact h9
  obtain ⟨R, h1, h2⟩ := ho
  have hx : crs A v ∈ R := by
    rcases h2 v hv with ⟨w, hw1, hw2, hw3⟩ | h9
    · exact absurd hw3 (hf w (by omega))
    · exact h9
  refine ⟨hkv, R.erase (crs A v), ?_, fun u hu hne => (h2 u hu).imp id (fun h9 => (List.mem_erase_of_ne hne).mpr h9)⟩
  have h3 : 0 < R.length := List.length_pos_of_mem hx
  rw [List.length_erase_of_mem hx]
  omega
