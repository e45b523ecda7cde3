/-! the reference's weights are binomials -/
def binN : Nat → Nat → Nat
  | _, 0 => 1
  | 0, _ + 1 => 0
  | n + 1, k + 1 => binN n k + binN n (k + 1)
theorem jW_tab : ∀ m : Fin 23, ∀ t : Fin 23, t.val ≤ m.val → jW (m.val + 1) t.val = if m.val % 2 = 0 then Int64.ofNat (binN m.val t.val) else - Int64.ofNat (binN m.val t.val) := by decide +kernel
theorem jW_bn {m t : Nat} (hm : m < 23) (ht : t ≤ m) : jW (m + 1) t = if m % 2 = 0 then Int64.ofNat (binN m t) else - Int64.ofNat (binN m t) := jW_tab ⟨m, hm⟩ ⟨t, by omega⟩ ht
