theorem dcX1_keepRow_0 : decode cX1_keepRow 0 = .ok (.aload_n 0, 1) := dw_at cX1_keepRow_k0 (p := 0) rfl (by decide +kernel)
theorem dcX1_keepRow_1 : decode cX1_keepRow 1 = .ok (.getfield 163, 3) := dw_at cX1_keepRow_k0 (p := 1) rfl (by decide +kernel)
theorem dcX1_keepRow_4 : decode cX1_keepRow 4 = .ok (.iload_n 2, 1) := dw_at cX1_keepRow_k0 (p := 4) rfl (by decide +kernel)
theorem dcX1_keepRow_5 : decode cX1_keepRow 5 = .ok (.iadd, 1) := dw_at cX1_keepRow_k0 (p := 5) rfl (by decide +kernel)
theorem dcX1_keepRow_6 : decode cX1_keepRow 6 = .ok (.iload_n 1, 1) := dw_at cX1_keepRow_k0 (p := 6) rfl (by decide +kernel)
theorem dcX1_keepRow_7 : decode cX1_keepRow 7 = .ok (.isub, 1) := dw_at cX1_keepRow_k0 (p := 7) rfl (by decide +kernel)
theorem dcX1_keepRow_8 : decode cX1_keepRow 8 = .ok (.aload_n 0, 1) := dw_at cX1_keepRow_k0 (p := 8) rfl (by decide +kernel)
theorem dcX1_keepRow_9 : decode cX1_keepRow 9 = .ok (.getfield 58, 3) := dw_at cX1_keepRow_k0 (p := 9) rfl (by decide +kernel)
theorem dcX1_keepRow_12 : decode cX1_keepRow 12 = .ok (.arraylength, 1) := dw_at cX1_keepRow_k0 (p := 12) rfl (by decide +kernel)
theorem dcX1_keepRow_13 : decode cX1_keepRow 13 = .ok (.if_icmp .le 41, 3) := dw_at cX1_keepRow_k0 (p := 13) rfl (by decide +kernel)
theorem dcX1_keepRow_16 : decode cX1_keepRow 16 = .ok (.aload_n 0, 1) := dw_at cX1_keepRow_k0 (p := 16) rfl (by decide +kernel)
theorem dcX1_keepRow_17 : decode cX1_keepRow 17 = .ok (.aload_n 0, 1) := dw_at cX1_keepRow_k0 (p := 17) rfl (by decide +kernel)
theorem dcX1_keepRow_18 : decode cX1_keepRow 18 = .ok (.getfield 58, 3) := dw_at cX1_keepRow_k0 (p := 18) rfl (by decide +kernel)
theorem dcX1_keepRow_21 : decode cX1_keepRow 21 = .ok (.iconst 2, 1) := dw_at cX1_keepRow_k0 (p := 21) rfl (by decide +kernel)
theorem dcX1_keepRow_22 : decode cX1_keepRow 22 = .ok (.aload_n 0, 1) := dw_at cX1_keepRow_k0 (p := 22) rfl (by decide +kernel)
theorem dcX1_keepRow_23 : decode cX1_keepRow 23 = .ok (.getfield 163, 3) := dw_at cX1_keepRow_k0 (p := 23) rfl (by decide +kernel)
theorem dcX1_keepRow_26 : decode cX1_keepRow 26 = .ok (.iload_n 2, 1) := dw_at cX1_keepRow_k1 (p := 0) rfl (by decide +kernel)
theorem dcX1_keepRow_27 : decode cX1_keepRow 27 = .ok (.iadd, 1) := dw_at cX1_keepRow_k1 (p := 1) rfl (by decide +kernel)
theorem dcX1_keepRow_28 : decode cX1_keepRow 28 = .ok (.imul, 1) := dw_at cX1_keepRow_k1 (p := 2) rfl (by decide +kernel)
theorem dcX1_keepRow_29 : decode cX1_keepRow 29 = .ok (.invokestatic 190, 3) := dw_at cX1_keepRow_k1 (p := 3) rfl (by decide +kernel)
theorem dcX1_keepRow_32 : decode cX1_keepRow 32 = .ok (.putfield 58, 3) := dw_at cX1_keepRow_k1 (p := 6) rfl (by decide +kernel)
theorem dcX1_keepRow_35 : decode cX1_keepRow 35 = .ok (.aload_n 0, 1) := dw_at cX1_keepRow_k1 (p := 9) rfl (by decide +kernel)
theorem dcX1_keepRow_36 : decode cX1_keepRow 36 = .ok (.aload_n 0, 1) := dw_at cX1_keepRow_k1 (p := 10) rfl (by decide +kernel)
theorem dcX1_keepRow_37 : decode cX1_keepRow 37 = .ok (.getfield 61, 3) := dw_at cX1_keepRow_k1 (p := 11) rfl (by decide +kernel)
theorem dcX1_keepRow_40 : decode cX1_keepRow 40 = .ok (.iconst 2, 1) := dw_at cX1_keepRow_k1 (p := 14) rfl (by decide +kernel)
theorem dcX1_keepRow_41 : decode cX1_keepRow 41 = .ok (.aload_n 0, 1) := dw_at cX1_keepRow_k1 (p := 15) rfl (by decide +kernel)
theorem dcX1_keepRow_42 : decode cX1_keepRow 42 = .ok (.getfield 163, 3) := dw_at cX1_keepRow_k1 (p := 16) rfl (by decide +kernel)
theorem dcX1_keepRow_45 : decode cX1_keepRow 45 = .ok (.iload_n 2, 1) := dw_at cX1_keepRow_k1 (p := 19) rfl (by decide +kernel)
theorem dcX1_keepRow_46 : decode cX1_keepRow 46 = .ok (.iadd, 1) := dw_at cX1_keepRow_k1 (p := 20) rfl (by decide +kernel)
theorem dcX1_keepRow_47 : decode cX1_keepRow 47 = .ok (.imul, 1) := dw_at cX1_keepRow_k1 (p := 21) rfl (by decide +kernel)
theorem dcX1_keepRow_48 : decode cX1_keepRow 48 = .ok (.invokestatic 190, 3) := dw_at cX1_keepRow_k1 (p := 22) rfl (by decide +kernel)
theorem dcX1_keepRow_51 : decode cX1_keepRow 51 = .ok (.putfield 61, 3) := dw_at cX1_keepRow_k2 (p := 0) rfl (by decide +kernel)
theorem dcX1_keepRow_54 : decode cX1_keepRow 54 = .ok (.aload_n 0, 1) := dw_at cX1_keepRow_k2 (p := 3) rfl (by decide +kernel)
theorem dcX1_keepRow_55 : decode cX1_keepRow 55 = .ok (.aload_n 0, 1) := dw_at cX1_keepRow_k2 (p := 4) rfl (by decide +kernel)
theorem dcX1_keepRow_56 : decode cX1_keepRow 56 = .ok (.getfield 46, 3) := dw_at cX1_keepRow_k2 (p := 5) rfl (by decide +kernel)
theorem dcX1_keepRow_59 : decode cX1_keepRow 59 = .ok (.iload_n 1, 1) := dw_at cX1_keepRow_k2 (p := 8) rfl (by decide +kernel)
theorem dcX1_keepRow_60 : decode cX1_keepRow 60 = .ok (.iaload, 1) := dw_at cX1_keepRow_k2 (p := 9) rfl (by decide +kernel)
theorem dcX1_keepRow_61 : decode cX1_keepRow 61 = .ok (.invokevirtual 194, 3) := dw_at cX1_keepRow_k2 (p := 10) rfl (by decide +kernel)
theorem dcX1_keepRow_64 : decode cX1_keepRow 64 = .ok (.istore_n 3, 1) := dw_at cX1_keepRow_k2 (p := 13) rfl (by decide +kernel)
theorem dcX1_keepRow_65 : decode cX1_keepRow 65 = .ok (.aload_n 0, 1) := dw_at cX1_keepRow_k2 (p := 14) rfl (by decide +kernel)
theorem dcX1_keepRow_66 : decode cX1_keepRow 66 = .ok (.getfield 49, 3) := dw_at cX1_keepRow_k2 (p := 15) rfl (by decide +kernel)
theorem dcX1_keepRow_69 : decode cX1_keepRow 69 = .ok (.iload_n 1, 1) := dw_at cX1_keepRow_k2 (p := 18) rfl (by decide +kernel)
theorem dcX1_keepRow_70 : decode cX1_keepRow 70 = .ok (.aload_n 0, 1) := dw_at cX1_keepRow_k2 (p := 19) rfl (by decide +kernel)
theorem dcX1_keepRow_71 : decode cX1_keepRow 71 = .ok (.getfield 163, 3) := dw_at cX1_keepRow_k2 (p := 20) rfl (by decide +kernel)
theorem dcX1_keepRow_74 : decode cX1_keepRow 74 = .ok (.iastore, 1) := dw_at cX1_keepRow_k2 (p := 23) rfl (by decide +kernel)
theorem dcX1_keepRow_75 : decode cX1_keepRow 75 = .ok (.iload_n 1, 1) := dw_at cX1_keepRow_k3 (p := 0) rfl (by decide +kernel)
theorem dcX1_keepRow_76 : decode cX1_keepRow 76 = .ok (.istore 4, 2) := dw_at cX1_keepRow_k3 (p := 1) rfl (by decide +kernel)
theorem dcX1_keepRow_78 : decode cX1_keepRow 78 = .ok (.iload 4, 2) := dw_at cX1_keepRow_k3 (p := 3) rfl (by decide +kernel)
theorem dcX1_keepRow_80 : decode cX1_keepRow 80 = .ok (.iload_n 2, 1) := dw_at cX1_keepRow_k3 (p := 5) rfl (by decide +kernel)
theorem dcX1_keepRow_81 : decode cX1_keepRow 81 = .ok (.if_icmp .ge 71, 3) := dw_at cX1_keepRow_k3 (p := 6) rfl (by decide +kernel)
theorem dcX1_keepRow_84 : decode cX1_keepRow 84 = .ok (.aload_n 0, 1) := dw_at cX1_keepRow_k3 (p := 9) rfl (by decide +kernel)
theorem dcX1_keepRow_85 : decode cX1_keepRow 85 = .ok (.getfield 46, 3) := dw_at cX1_keepRow_k3 (p := 10) rfl (by decide +kernel)
theorem dcX1_keepRow_88 : decode cX1_keepRow 88 = .ok (.iload 4, 2) := dw_at cX1_keepRow_k3 (p := 13) rfl (by decide +kernel)
theorem dcX1_keepRow_90 : decode cX1_keepRow 90 = .ok (.iaload, 1) := dw_at cX1_keepRow_k3 (p := 15) rfl (by decide +kernel)
theorem dcX1_keepRow_91 : decode cX1_keepRow 91 = .ok (.ifCond .eq 55, 3) := dw_at cX1_keepRow_k3 (p := 16) rfl (by decide +kernel)
theorem dcX1_keepRow_94 : decode cX1_keepRow 94 = .ok (.aload_n 0, 1) := dw_at cX1_keepRow_k3 (p := 19) rfl (by decide +kernel)
theorem dcX1_keepRow_95 : decode cX1_keepRow 95 = .ok (.getfield 58, 3) := dw_at cX1_keepRow_k3 (p := 20) rfl (by decide +kernel)
theorem dcX1_keepRow_98 : decode cX1_keepRow 98 = .ok (.aload_n 0, 1) := dw_at cX1_keepRow_k3 (p := 23) rfl (by decide +kernel)
theorem dcX1_keepRow_99 : decode cX1_keepRow 99 = .ok (.getfield 163, 3) := dw_at cX1_keepRow_k4 (p := 0) rfl (by decide +kernel)
theorem dcX1_keepRow_102 : decode cX1_keepRow 102 = .ok (.iload 4, 2) := dw_at cX1_keepRow_k4 (p := 3) rfl (by decide +kernel)
theorem dcX1_keepRow_104 : decode cX1_keepRow 104 = .ok (.iastore, 1) := dw_at cX1_keepRow_k4 (p := 5) rfl (by decide +kernel)
theorem dcX1_keepRow_105 : decode cX1_keepRow 105 = .ok (.aload_n 0, 1) := dw_at cX1_keepRow_k4 (p := 6) rfl (by decide +kernel)
theorem dcX1_keepRow_106 : decode cX1_keepRow 106 = .ok (.getfield 61, 3) := dw_at cX1_keepRow_k4 (p := 7) rfl (by decide +kernel)
theorem dcX1_keepRow_109 : decode cX1_keepRow 109 = .ok (.aload_n 0, 1) := dw_at cX1_keepRow_k4 (p := 10) rfl (by decide +kernel)
theorem dcX1_keepRow_110 : decode cX1_keepRow 110 = .ok (.getfield 163, 3) := dw_at cX1_keepRow_k4 (p := 11) rfl (by decide +kernel)
theorem dcX1_keepRow_113 : decode cX1_keepRow 113 = .ok (.aload_n 0, 1) := dw_at cX1_keepRow_k4 (p := 14) rfl (by decide +kernel)
theorem dcX1_keepRow_114 : decode cX1_keepRow 114 = .ok (.getfield 46, 3) := dw_at cX1_keepRow_k4 (p := 15) rfl (by decide +kernel)
theorem dcX1_keepRow_117 : decode cX1_keepRow 117 = .ok (.iload 4, 2) := dw_at cX1_keepRow_k4 (p := 18) rfl (by decide +kernel)
theorem dcX1_keepRow_119 : decode cX1_keepRow 119 = .ok (.iaload, 1) := dw_at cX1_keepRow_k4 (p := 20) rfl (by decide +kernel)
theorem dcX1_keepRow_120 : decode cX1_keepRow 120 = .ok (.iload_n 3, 1) := dw_at cX1_keepRow_k4 (p := 21) rfl (by decide +kernel)
theorem dcX1_keepRow_121 : decode cX1_keepRow 121 = .ok (.imul, 1) := dw_at cX1_keepRow_k4 (p := 22) rfl (by decide +kernel)
theorem dcX1_keepRow_122 : decode cX1_keepRow 122 = .ok (.aload_n 0, 1) := dw_at cX1_keepRow_k4 (p := 23) rfl (by decide +kernel)
theorem dcX1_keepRow_123 : decode cX1_keepRow 123 = .ok (.getfield 80, 3) := dw_at cX1_keepRow_k5 (p := 0) rfl (by decide +kernel)
theorem dcX1_keepRow_126 : decode cX1_keepRow 126 = .ok (.irem, 1) := dw_at cX1_keepRow_k5 (p := 3) rfl (by decide +kernel)
theorem dcX1_keepRow_127 : decode cX1_keepRow 127 = .ok (.iastore, 1) := dw_at cX1_keepRow_k5 (p := 4) rfl (by decide +kernel)
theorem dcX1_keepRow_128 : decode cX1_keepRow 128 = .ok (.aload_n 0, 1) := dw_at cX1_keepRow_k5 (p := 5) rfl (by decide +kernel)
theorem dcX1_keepRow_129 : decode cX1_keepRow 129 = .ok (.dup, 1) := dw_at cX1_keepRow_k5 (p := 6) rfl (by decide +kernel)
theorem dcX1_keepRow_130 : decode cX1_keepRow 130 = .ok (.getfield 163, 3) := dw_at cX1_keepRow_k5 (p := 7) rfl (by decide +kernel)
theorem dcX1_keepRow_133 : decode cX1_keepRow 133 = .ok (.iconst 1, 1) := dw_at cX1_keepRow_k5 (p := 10) rfl (by decide +kernel)
theorem dcX1_keepRow_134 : decode cX1_keepRow 134 = .ok (.iadd, 1) := dw_at cX1_keepRow_k5 (p := 11) rfl (by decide +kernel)
theorem dcX1_keepRow_135 : decode cX1_keepRow 135 = .ok (.putfield 163, 3) := dw_at cX1_keepRow_k5 (p := 12) rfl (by decide +kernel)
theorem dcX1_keepRow_138 : decode cX1_keepRow 138 = .ok (.aload_n 0, 1) := dw_at cX1_keepRow_k5 (p := 15) rfl (by decide +kernel)
theorem dcX1_keepRow_139 : decode cX1_keepRow 139 = .ok (.getfield 46, 3) := dw_at cX1_keepRow_k5 (p := 16) rfl (by decide +kernel)
theorem dcX1_keepRow_142 : decode cX1_keepRow 142 = .ok (.iload 4, 2) := dw_at cX1_keepRow_k5 (p := 19) rfl (by decide +kernel)
theorem dcX1_keepRow_144 : decode cX1_keepRow 144 = .ok (.iconst 0, 1) := dw_at cX1_keepRow_k5 (p := 21) rfl (by decide +kernel)
theorem dcX1_keepRow_145 : decode cX1_keepRow 145 = .ok (.iastore, 1) := dw_at cX1_keepRow_k5 (p := 22) rfl (by decide +kernel)
theorem dcX1_keepRow_146 : decode cX1_keepRow 146 = .ok (.iinc 4 1, 3) := dw_at cX1_keepRow_k5 (p := 23) rfl (by decide +kernel)
theorem dcX1_keepRow_149 : decode cX1_keepRow 149 = .ok (.goto (-71), 3) := dw_at cX1_keepRow_k6 (p := 0) rfl (by decide +kernel)
theorem dcX1_keepRow_152 : decode cX1_keepRow 152 = .ok (.aload_n 0, 1) := dw_at cX1_keepRow_k6 (p := 3) rfl (by decide +kernel)
theorem dcX1_keepRow_153 : decode cX1_keepRow 153 = .ok (.getfield 52, 3) := dw_at cX1_keepRow_k6 (p := 4) rfl (by decide +kernel)
theorem dcX1_keepRow_156 : decode cX1_keepRow 156 = .ok (.iload_n 1, 1) := dw_at cX1_keepRow_k6 (p := 7) rfl (by decide +kernel)
theorem dcX1_keepRow_157 : decode cX1_keepRow 157 = .ok (.aload_n 0, 1) := dw_at cX1_keepRow_k6 (p := 8) rfl (by decide +kernel)
theorem dcX1_keepRow_158 : decode cX1_keepRow 158 = .ok (.getfield 163, 3) := dw_at cX1_keepRow_k6 (p := 9) rfl (by decide +kernel)
theorem dcX1_keepRow_161 : decode cX1_keepRow 161 = .ok (.iastore, 1) := dw_at cX1_keepRow_k6 (p := 12) rfl (by decide +kernel)
theorem dcX1_keepRow_162 : decode cX1_keepRow 162 = .ok (.return_, 1) := dw_at cX1_keepRow_k6 (p := 13) rfl (by decide +kernel)
def dm_X1_keepRow_0 (K : Nat) (go : Nat → Int32 → Int32 → Int32 → Int32 → Nat → (Nat → Nat) → ow_MS → Option (Unit × (Nat → Nat) × ow_MS)) (x1 : Int32) (x2 : Int32) (x3 : Int32) (x4 : Int32) (r0 : Nat) (vl : Nat → Nat) (z : ow_MS) : Option (Unit × (Nat → Nat) × ow_MS) :=
 rdF z (r0 + 17) fun v1 => (if ((v1 + x2) - x1) ≤ (Int32.ofNat (uw_len (cX vl) z (r0 + 15))) then go 1 x1 x2 0 0 r0 vl z
 else rdF z (r0 + 17) fun v2 => cpR vl z (r0 + 1 + 14) (2 * (v2 + x2)) fun vl z3 => chV vl (rdF z3 (r0 + 17) fun v4 => cpR vl z3 (r0 + 1 + 15) (2 * (v4 + x2)) fun vl z5 => chV vl (go 1 x1 x2 0 0 r0 vl z5)))
def dm_X1_keepRow_1 (K : Nat) (go : Nat → Int32 → Int32 → Int32 → Int32 → Nat → (Nat → Nat) → ow_MS → Option (Unit × (Nat → Nat) × ow_MS)) (x1 : Int32) (x2 : Int32) (x3 : Int32) (x4 : Int32) (r0 : Nat) (vl : Nat → Nat) (z : ow_MS) : Option (Unit × (Nat → Nat) × ow_MS) :=
 crI (cX vl) z (r0 + 11) x1 fun v6 => cs1 (ce_X1_reciprocal vl K r0 v6 z) fun v8 z7 => rdF z7 (r0 + 17) fun v9 => ctI (cX vl) z7 (r0 + 12) x1 v9 fun z10 => go 2 x1 x2 v8 x1 r0 vl z10
def dm_X1_keepRow_2 (K : Nat) (go : Nat → Int32 → Int32 → Int32 → Int32 → Nat → (Nat → Nat) → ow_MS → Option (Unit × (Nat → Nat) × ow_MS)) (x1 : Int32) (x2 : Int32) (x3 : Int32) (x4 : Int32) (r0 : Nat) (vl : Nat → Nat) (z : ow_MS) : Option (Unit × (Nat → Nat) × ow_MS) :=
 (if x2 ≤ x4 then rdF z (r0 + 17) fun v11 => ctI (cX vl) z (r0 + 13) x1 v11 fun z12 => some ((), vl, z12)
 else crI (cX vl) z (r0 + 11) x4 fun v13 => (if v13 = 0 then go 3 x1 x2 x3 x4 r0 vl z
 else rdF z (r0 + 17) fun v14 => ctI (cX vl) z (r0 + 15) v14 x4 fun z15 => rdF z15 (r0 + 17) fun v16 => crI (cX vl) z15 (r0 + 11) x4 fun v17 => rdF z15 (r0 + 10) fun v18 => nzI v18 (ctI (cX vl) z15 (r0 + 16) v16 ((v17 * x3) - (v17 * x3) / v18 * v18) fun z19 => rdF z19 (r0 + 17) fun v20 => wrF z19 (r0 + 17) (v20 + 1) fun z21 => ctI (cX vl) z21 (r0 + 11) x4 0 fun z22 => go 3 x1 x2 x3 x4 r0 vl z22)))
def dm_X1_keepRow_3 (K : Nat) (go : Nat → Int32 → Int32 → Int32 → Int32 → Nat → (Nat → Nat) → ow_MS → Option (Unit × (Nat → Nat) × ow_MS)) (x1 : Int32) (x2 : Int32) (x3 : Int32) (x4 : Int32) (r0 : Nat) (vl : Nat → Nat) (z : ow_MS) : Option (Unit × (Nat → Nat) × ow_MS) :=
 go 2 x1 x2 x3 (x4 + 1) r0 vl z
def db_X1_keepRow (K : Nat) (go : Nat → Int32 → Int32 → Int32 → Int32 → Nat → (Nat → Nat) → ow_MS → Option (Unit × (Nat → Nat) × ow_MS)) (L : Nat) (x1 : Int32) (x2 : Int32) (x3 : Int32) (x4 : Int32) (r0 : Nat) (vl : Nat → Nat) (z : ow_MS) : Option (Unit × (Nat → Nat) × ow_MS) := match L with
  | 0 => chV vl (dm_X1_keepRow_0 K go x1 x2 x3 x4 r0 vl z)
  | 1 => chV vl (dm_X1_keepRow_1 K go x1 x2 x3 x4 r0 vl z)
  | 2 => chV vl (dm_X1_keepRow_2 K go x1 x2 x3 x4 r0 vl z)
  | 3 => chV vl (dm_X1_keepRow_3 K go x1 x2 x3 x4 r0 vl z)
  | _ => none
def d_X1_keepRow (K : Nat) : Nat → Nat → Int32 → Int32 → Int32 → Int32 → Nat → (Nat → Nat) → ow_MS → Option (Unit × (Nat → Nat) × ow_MS)
  | 0 => fun _ _ _ _ _ _ _ _ => none
  | k + 1 => db_X1_keepRow K (d_X1_keepRow K k)
def de_X1_keepRow (K : Nat) (r0 : Nat) (x1 : Int32) (x2 : Int32) (vl : Nat → Nat) (z : ow_MS) : Option (Unit × (Nat → Nat) × ow_MS) := d_X1_keepRow K K 0 x1 x2 0 0 r0 vl z
theorem dl_X1_keepRow {K : Nat} {r0 : Nat} {x1 : Int32} {x2 : Int32} {vl vlE : Nat → Nat} {z z1 : ow_MS} {r : Unit} (h : de_X1_keepRow K r0 x1 x2 vl z = some (r, vlE, z1)) : dPhi vl ≤ dPhi vlE := by
  cases K with
  | zero => exact cw_no h
  | succ k => exact (dd_ch (show chV vl (dm_X1_keepRow_0 (k + 1) (d_X1_keepRow (k + 1) k) x1 x2 0 0 r0 vl z) = some (r, vlE, z1) from h)).1
abbrev wc_X1_keepRow : List Cond := .code yX1_keepRow cX1_keepRow 5 none :: wD
theorem cdd_X1_keepRow : yX1_keepRow.cls = RX1 ∧ yX1_keepRow.cls ≠ "java/lang/invoke/MethodHandle" ∧ yX1_keepRow.cls ≠ "java/lang/invoke/VarHandle" ∧ (parseMethodDescriptor yX1_keepRow.desc).map (fun d => d.parameters.length) = some 2 := by decide +kernel
set_option maxHeartbeats 4000000 in
set_option maxRecDepth 100000 in
theorem kd_X1_keepRow (l : Launch) (D : va_G) (q : Nat → ClassId) (vl0 u0 : Nat → Nat) (hU0 : tw_inj (cX vl0) u0) (K : Nat) (r0 : Nat) (x1 : Int32) (x2 : Int32) (hr0 : cw_X1 r0) (z z1 : ow_MS) (vlE : Nat → Nat) (r : Unit) (sz : Nat) (hq : de_X1_keepRow K r0 x1 x2 vl0 z = some (r, vlE, z1)) : Met l yX1_keepRow wc_X1_keepRow ({ frames := 2, cells := dca vl0 vlE, slots := dsl vl0 vlE, locals := 82 } : Room) (va_Pc [.ref (u0 r0), .int x1, .int x2] (cw_preD D q vl0 u0 z sz)) (va_Qv (fun (u1 : Nat → Nat) => cd_U u0 u1 sz) (fun u1 t => va_P D vwCl (uw (cX vlE) q u1 z1) t.heap) (cd_A u0 sz)) (dca vl0 vlE) (dsl vl0 vlE) (cd_A u0 sz) := by
  refine Met.ofW (cc := cX1_keepRow) (maxL := 5) (ret := none) (by decide) rfl ?_
  intro p e s m args below meth c s₁ B hml hv
  obtain ⟨rfl, rfl, hP, hK⟩ := hv
  have hx := B.exec
  have hb := B.bytes
  have hr := B.returns
  have hts := atoms_spec (ws := wc_X1_keepRow) B.pre
  have hT : ∀ w ∈ wC, w.before ([.ref (u0 r0), .int x1, .int x2] : List Value).toArray s = true := fun w h => hts w (List.mem_cons_of_mem _ (List.mem_cons_of_mem _ h))
  have hown : s.vm.findClass RX1 = some m.cls := findClass_of_methodNamed B.named
  have hlocks := B.notSynchronized
  have hA : ∀ q1 : Nat, s.heap.size ≤ q1 → cd_A u0 s.heap.size q1 := fun q1 h => Or.inr h
  have hU : uw_inj (cX vl0) u0 (cd_A u0 s.heap.size) := ⟨hU0, fun h hh => Or.inl ⟨h, hh, rfl⟩⟩
  have hM : uw_M D vwCl (cX vl0) q (cd_A u0 s.heap.size) s.heap u0 z s.heap [] := ⟨hP, va_S.rf⟩
  have hl := lv_entry ([.ref (u0 r0), .int x1, .int x2]) (n := 5) (Nat.le_of_ble_eq_true rfl)
  rw [lg_entry_eq]
  generalize (lg_sl ([.ref (u0 r0), .int x1, .int x2]) ++ List.replicate (5 - (lg_sl ([.ref (u0 r0), .int x1, .int x2])).length) Slot.unset).toArray = ls at hl ⊢
  have hl : lv_has ls 5 [(0, .ref (u0 r0)), (1, .int x1), (2, .int x2)] := hl
  refine ow_named (fun QQ hQQ => ?_)
  generalize ([.ref (u0 r0), .int x1, .int x2] : List Value).toArray = args at hts hT hQQ ⊢
  have key : ∀ k : Nat, (∀ (x1 : Int32) (x2 : Int32) (x3 : Int32) (x4 : Int32) (r0 : Nat) (vl u : Nat → Nat) (z : ow_MS) (H : Heap) (locs : List Loc) (ls : Array Slot), cw_X1 r0 → uw_inj (cX vl) u (cd_A u0 s.heap.size) → (∀ h, h ∉ dynL → u h = u0 h) → dPhi vl0 ≤ dPhi vl → uw_M D vwCl (cX vl) q (cd_A u0 s.heap.size) s.heap u z H locs → lv_has ls 5 [(0, .ref (u r0)), (1, .int x1), (2, .int x2)] → d_X1_keepRow K k 0 x1 x2 x3 x4 r0 vl z = some (r, vlE, z1) → W p l e ({ frames := 2, cells := dca vl0 vlE, slots := dsl vl0 vlE, locals := 82 } : Room) s m args below meth c H locs (dca vl0 vl) (dsl vl0 vl) QQ (F0 m 0 ls [])) ∧ (∀ (x1 : Int32) (x2 : Int32) (x3 : Int32) (x4 : Int32) (r0 : Nat) (vl u : Nat → Nat) (z : ow_MS) (H : Heap) (locs : List Loc) (ls : Array Slot), cw_X1 r0 → uw_inj (cX vl) u (cd_A u0 s.heap.size) → (∀ h, h ∉ dynL → u h = u0 h) → dPhi vl0 ≤ dPhi vl → uw_M D vwCl (cX vl) q (cd_A u0 s.heap.size) s.heap u z H locs → lv_has ls 5 [(0, .ref (u r0)), (1, .int x1), (2, .int x2)] → d_X1_keepRow K k 1 x1 x2 x3 x4 r0 vl z = some (r, vlE, z1) → W p l e ({ frames := 2, cells := dca vl0 vlE, slots := dsl vl0 vlE, locals := 82 } : Room) s m args below meth c H locs (dca vl0 vl) (dsl vl0 vl) QQ (F0 m 54 ls [])) ∧ (∀ (x1 : Int32) (x2 : Int32) (x3 : Int32) (x4 : Int32) (r0 : Nat) (vl u : Nat → Nat) (z : ow_MS) (H : Heap) (locs : List Loc) (ls : Array Slot), cw_X1 r0 → uw_inj (cX vl) u (cd_A u0 s.heap.size) → (∀ h, h ∉ dynL → u h = u0 h) → dPhi vl0 ≤ dPhi vl → uw_M D vwCl (cX vl) q (cd_A u0 s.heap.size) s.heap u z H locs → lv_has ls 5 [(0, .ref (u r0)), (1, .int x1), (2, .int x2), (3, .int x3), (4, .int x4)] → d_X1_keepRow K k 2 x1 x2 x3 x4 r0 vl z = some (r, vlE, z1) → W p l e ({ frames := 2, cells := dca vl0 vlE, slots := dsl vl0 vlE, locals := 82 } : Room) s m args below meth c H locs (dca vl0 vl) (dsl vl0 vl) QQ (F0 m 78 ls [])) ∧ (∀ (x1 : Int32) (x2 : Int32) (x3 : Int32) (x4 : Int32) (r0 : Nat) (vl u : Nat → Nat) (z : ow_MS) (H : Heap) (locs : List Loc) (ls : Array Slot), cw_X1 r0 → uw_inj (cX vl) u (cd_A u0 s.heap.size) → (∀ h, h ∉ dynL → u h = u0 h) → dPhi vl0 ≤ dPhi vl → uw_M D vwCl (cX vl) q (cd_A u0 s.heap.size) s.heap u z H locs → lv_has ls 5 [(0, .ref (u r0)), (1, .int x1), (2, .int x2), (3, .int x3), (4, .int x4)] → d_X1_keepRow K k 3 x1 x2 x3 x4 r0 vl z = some (r, vlE, z1) → W p l e ({ frames := 2, cells := dca vl0 vlE, slots := dsl vl0 vlE, locals := 82 } : Room) s m args below meth c H locs (dca vl0 vl) (dsl vl0 vl) QQ (F0 m 146 ls [])) := by
    intro k
    induction k with
    | zero => exact ⟨fun _ _ _ _ _ _ _ _ _ _ _ _ _ _ _ _ _ hq => cw_no hq, fun _ _ _ _ _ _ _ _ _ _ _ _ _ _ _ _ _ hq => cw_no hq, fun _ _ _ _ _ _ _ _ _ _ _ _ _ _ _ _ _ hq => cw_no hq, fun _ _ _ _ _ _ _ _ _ _ _ _ _ _ _ _ _ hq => cw_no hq⟩
    | succ k ih =>
      obtain ⟨ih_0, ih_1, ih_2, ih_3⟩ := ih
      refine ⟨?_, ?_, ?_, ?_⟩
      · intro x1 x2 x3 x4 r0 vl u z H locs ls hr0 hU hst h0 hM hl hq
        obtain ⟨hle, hq⟩ := dd_ch (show chV vl (dm_X1_keepRow_0 K (d_X1_keepRow K k) x1 x2 x3 x4 r0 vl z) = some (r, vlE, z1) from hq)
        unfold dm_X1_keepRow_0 at hq
        refine lv_aload_n hx hb dcX1_keepRow_0 rfl (lv_at hl 0 rfl) ?_
        refine vgX1_163 hx hb hT hown hK hM hr0 hq dcX1_keepRow_1 (fun v1 hq => ?_)
        refine lv_iload_n hx hb dcX1_keepRow_4 rfl (lv_at hl 2 rfl) ?_
        refine lv_iadd hx hb dcX1_keepRow_5 ?_
        refine lv_iload_n hx hb dcX1_keepRow_6 rfl (lv_at hl 1 rfl) ?_
        refine lv_isub hx hb dcX1_keepRow_7 ?_
        refine lv_aload_n hx hb dcX1_keepRow_8 rfl (lv_at hl 0 rfl) ?_
        refine vgX1_58 hx hb hT hown hK hM hr0 dcX1_keepRow_9 ?_
        refine uw_alen cX_ok hx hb hK hM (cr_X1_14 hr0) dcX1_keepRow_12 ?_
        refine lv_icmp_le (tgt := 54) hx hb dcX1_keepRow_13 (by decide) (fun hc => ?_) (fun hc => ?_)
        · have hq := tw_it hq hc
          exact ih_1 x1 x2 0 0 r0 vl u z H locs ls hr0 hU hst h0 hM (lv_sub hl [0, 1, 2] rfl) hq
        · have hq := tw_if hq hc
          refine lv_aload_n hx hb dcX1_keepRow_16 rfl (lv_at hl 0 rfl) ?_
          refine lv_aload_n hx hb dcX1_keepRow_17 rfl (lv_at hl 0 rfl) ?_
          refine vgX1_58 hx hb hT hown hK hM hr0 dcX1_keepRow_18 ?_
          refine lv_iconst (v := 2) hx hb dcX1_keepRow_21 (by decide) ?_
          refine lv_aload_n hx hb dcX1_keepRow_22 rfl (lv_at hl 0 rfl) ?_
          refine vgX1_163 hx hb hT hown hK hM hr0 hq dcX1_keepRow_23 (fun v2 hq => ?_)
          refine lv_iload_n hx hb dcX1_keepRow_26 rfl (lv_at hl 2 rfl) ?_
          refine lv_iadd hx hb dcX1_keepRow_27 ?_
          refine lv_imul hx hb dcX1_keepRow_28 ?_
          refine dd_cpy (k := 14) hx hb hml hl.1 hts hown hK hA hU hM hr0 (by decide) (by obtain rfl : r0 = 43000 := List.mem_singleton.mp hr0; decide) (hT _ xq_242) (fun _ h9 => h9) rfl (by decide +kernel) (tw_gS2 wD_good (fun _ h => h) (List.mem_cons_of_mem _ xq_248) (List.mem_cons_of_mem _ xq_249) (List.mem_cons_of_mem _ xq_9) (List.mem_cons_of_mem _ xq_250)) h0 hq rfl rfl (Nat.le_of_ble_eq_true rfl) (Nat.le_of_ble_eq_true rfl) (lv_room (Nat.le_of_ble_eq_true rfl)) dcX1_keepRow_29 dcX1_keepRow_32 (fun vl u z3 H locs hU hs1 h0 hle hM hq => ?_)
          have hl : lv_has ls 5 [(0, .ref (u r0)), (1, .int x1), (2, .int x2)] := by rw [hs1 r0 (ns_X1 hr0)]; exact hl
          have hst : ∀ h, h ∉ dynL → u h = u0 h := fun h hh => (hs1 h hh).trans (hst h hh)
          refine lv_aload_n hx hb dcX1_keepRow_35 rfl (lv_at hl 0 rfl) ?_
          refine lv_aload_n hx hb dcX1_keepRow_36 rfl (lv_at hl 0 rfl) ?_
          refine vgX1_61 hx hb hT hown hK hM hr0 dcX1_keepRow_37 ?_
          refine lv_iconst (v := 2) hx hb dcX1_keepRow_40 (by decide) ?_
          refine lv_aload_n hx hb dcX1_keepRow_41 rfl (lv_at hl 0 rfl) ?_
          refine vgX1_163 hx hb hT hown hK hM hr0 hq dcX1_keepRow_42 (fun v4 hq => ?_)
          refine lv_iload_n hx hb dcX1_keepRow_45 rfl (lv_at hl 2 rfl) ?_
          refine lv_iadd hx hb dcX1_keepRow_46 ?_
          refine lv_imul hx hb dcX1_keepRow_47 ?_
          refine dd_cpy (k := 15) hx hb hml hl.1 hts hown hK hA hU hM hr0 (by decide) (by obtain rfl : r0 = 43000 := List.mem_singleton.mp hr0; decide) (hT _ xq_243) (fun _ h9 => h9) rfl (by decide +kernel) (tw_gS2 wD_good (fun _ h => h) (List.mem_cons_of_mem _ xq_248) (List.mem_cons_of_mem _ xq_249) (List.mem_cons_of_mem _ xq_9) (List.mem_cons_of_mem _ xq_250)) h0 hq rfl rfl (Nat.le_of_ble_eq_true rfl) (Nat.le_of_ble_eq_true rfl) (lv_room (Nat.le_of_ble_eq_true rfl)) dcX1_keepRow_48 dcX1_keepRow_51 (fun vl u z5 H locs hU hs1 h0 hle hM hq => ?_)
          have hl : lv_has ls 5 [(0, .ref (u r0)), (1, .int x1), (2, .int x2)] := by rw [hs1 r0 (ns_X1 hr0)]; exact hl
          have hst : ∀ h, h ∉ dynL → u h = u0 h := fun h hh => (hs1 h hh).trans (hst h hh)
          exact ih_1 x1 x2 0 0 r0 vl u z5 H locs ls hr0 hU hst h0 hM (lv_sub hl [0, 1, 2] rfl) hq
      · intro x1 x2 x3 x4 r0 vl u z H locs ls hr0 hU hst h0 hM hl hq
        obtain ⟨hle, hq⟩ := dd_ch (show chV vl (dm_X1_keepRow_1 K (d_X1_keepRow K k) x1 x2 x3 x4 r0 vl z) = some (r, vlE, z1) from hq)
        unfold dm_X1_keepRow_1 at hq
        refine lv_aload_n hx hb dcX1_keepRow_54 rfl (lv_at hl 0 rfl) ?_
        refine lv_aload_n hx hb dcX1_keepRow_55 rfl (lv_at hl 0 rfl) ?_
        refine vgX1_46 hx hb hT hown hK hM hr0 dcX1_keepRow_56 ?_
        refine lv_iload_n hx hb dcX1_keepRow_59 rfl (lv_at hl 1 rfl) ?_
        refine uw_iald cX_ok hx hb hK hM (cr_X1_10 hr0) hq dcX1_keepRow_60 (fun v6 hq => ?_)
        obtain ⟨v8, z7, hcq, hq⟩ := tw_cl1 hq
        refine uw_cali hU hM (va_runV (As := [.int v6]) (rest := []) ⟨hx, hb, hml, hown, hts⟩ (kc_X1_reciprocal l D q vl u hU.1 K r0 v6 hr0 z z7 v8 hcq) (cwV 1 hts (tw_gV2 wD_good (fun _ h => List.mem_cons_of_mem _ h) (List.mem_cons_of_mem _ xq_257) (List.mem_cons_of_mem _ xq_258) (List.mem_cons_of_mem _ xq_259) (List.mem_cons_of_mem _ xq_138) (List.mem_cons_of_mem _ xq_260)) rfl rfl rfl cdd_X1_reciprocal ⟨(Nat.le_of_ble_eq_true rfl), (Nat.le_of_ble_eq_true rfl)⟩) (cw_preV hK hM (co_X1 hr0) rfl) rfl rfl hl.1 rfl (lv_room (Nat.le_of_ble_eq_true rfl)) dcX1_keepRow_61 ⟨dca_le hle, dsl_le hle⟩) (fun H locs hM => ?_)
        refine lv_istore_n (lv' := [(3, .int v8), (0, .ref (u r0)), (1, .int x1), (2, .int x2)]) hx hb dcX1_keepRow_64 rfl hl (by decide) rfl (fun ls hl => ?_)
        refine lv_aload_n hx hb dcX1_keepRow_65 rfl (lv_at hl 1 rfl) ?_
        refine vgX1_49 hx hb hT hown hK hM hr0 dcX1_keepRow_66 ?_
        refine lv_iload_n hx hb dcX1_keepRow_69 rfl (lv_at hl 2 rfl) ?_
        refine lv_aload_n hx hb dcX1_keepRow_70 rfl (lv_at hl 1 rfl) ?_
        refine vgX1_163 hx hb hT hown hK hM hr0 hq dcX1_keepRow_71 (fun v9 hq => ?_)
        refine uw_iast cX_ok hU hx hb hK hM (cr_X1_11 hr0) hq dcX1_keepRow_74 (fun z10 H locs hM hq => ?_)
        refine lv_iload_n hx hb dcX1_keepRow_75 rfl (lv_at hl 2 rfl) ?_
        refine lv_istore (lv' := [(4, .int x1), (3, .int v8), (0, .ref (u r0)), (1, .int x1), (2, .int x2)]) hx hb dcX1_keepRow_76 hl (by decide) rfl (fun ls hl => ?_)
        exact ih_2 x1 x2 v8 x1 r0 vl u z10 H locs ls hr0 hU hst h0 hM (lv_sub hl [2, 3, 4, 1, 0] rfl) hq
      · intro x1 x2 x3 x4 r0 vl u z H locs ls hr0 hU hst h0 hM hl hq
        obtain ⟨hle, hq⟩ := dd_ch (show chV vl (dm_X1_keepRow_2 K (d_X1_keepRow K k) x1 x2 x3 x4 r0 vl z) = some (r, vlE, z1) from hq)
        unfold dm_X1_keepRow_2 at hq
        refine lv_iload hx hb dcX1_keepRow_78 (lv_at hl 4 rfl) ?_
        refine lv_iload_n hx hb dcX1_keepRow_80 rfl (lv_at hl 2 rfl) ?_
        refine lv_icmp_ge (tgt := 152) hx hb dcX1_keepRow_81 (by decide) (fun hc => ?_) (fun hc => ?_)
        · have hq := tw_it hq hc
          refine lv_aload_n hx hb dcX1_keepRow_152 rfl (lv_at hl 0 rfl) ?_
          refine vgX1_52 hx hb hT hown hK hM hr0 dcX1_keepRow_153 ?_
          refine lv_iload_n hx hb dcX1_keepRow_156 rfl (lv_at hl 1 rfl) ?_
          refine lv_aload_n hx hb dcX1_keepRow_157 rfl (lv_at hl 0 rfl) ?_
          refine vgX1_163 hx hb hT hown hK hM hr0 hq dcX1_keepRow_158 (fun v11 hq => ?_)
          refine uw_iast cX_ok hU hx hb hK hM (cr_X1_12 hr0) hq dcX1_keepRow_161 (fun z12 H locs hM hq => ?_)
          exact dd_vret hx hb hr hlocks hU hst hM hq hQQ dcX1_keepRow_162
        · have hq := tw_if hq hc
          refine lv_aload_n hx hb dcX1_keepRow_84 rfl (lv_at hl 0 rfl) ?_
          refine vgX1_46 hx hb hT hown hK hM hr0 dcX1_keepRow_85 ?_
          refine lv_iload hx hb dcX1_keepRow_88 (lv_at hl 4 rfl) ?_
          refine uw_iald cX_ok hx hb hK hM (cr_X1_10 hr0) hq dcX1_keepRow_90 (fun v13 hq => ?_)
          refine lv_if_eq (tgt := 146) hx hb dcX1_keepRow_91 (by decide) (fun hc => ?_) (fun hc => ?_)
          · have hq := tw_it hq hc
            exact ih_3 x1 x2 x3 x4 r0 vl u z H locs ls hr0 hU hst h0 hM (lv_sub hl [0, 1, 2, 3, 4] rfl) hq
          · have hq := tw_if hq hc
            refine lv_aload_n hx hb dcX1_keepRow_94 rfl (lv_at hl 0 rfl) ?_
            refine vgX1_58 hx hb hT hown hK hM hr0 dcX1_keepRow_95 ?_
            refine lv_aload_n hx hb dcX1_keepRow_98 rfl (lv_at hl 0 rfl) ?_
            refine vgX1_163 hx hb hT hown hK hM hr0 hq dcX1_keepRow_99 (fun v14 hq => ?_)
            refine lv_iload hx hb dcX1_keepRow_102 (lv_at hl 4 rfl) ?_
            refine uw_iast cX_ok hU hx hb hK hM (cr_X1_14 hr0) hq dcX1_keepRow_104 (fun z15 H locs hM hq => ?_)
            refine lv_aload_n hx hb dcX1_keepRow_105 rfl (lv_at hl 0 rfl) ?_
            refine vgX1_61 hx hb hT hown hK hM hr0 dcX1_keepRow_106 ?_
            refine lv_aload_n hx hb dcX1_keepRow_109 rfl (lv_at hl 0 rfl) ?_
            refine vgX1_163 hx hb hT hown hK hM hr0 hq dcX1_keepRow_110 (fun v16 hq => ?_)
            refine lv_aload_n hx hb dcX1_keepRow_113 rfl (lv_at hl 0 rfl) ?_
            refine vgX1_46 hx hb hT hown hK hM hr0 dcX1_keepRow_114 ?_
            refine lv_iload hx hb dcX1_keepRow_117 (lv_at hl 4 rfl) ?_
            refine uw_iald cX_ok hx hb hK hM (cr_X1_10 hr0) hq dcX1_keepRow_119 (fun v17 hq => ?_)
            refine lv_iload_n hx hb dcX1_keepRow_120 rfl (lv_at hl 3 rfl) ?_
            refine lv_imul hx hb dcX1_keepRow_121 ?_
            refine lv_aload_n hx hb dcX1_keepRow_122 rfl (lv_at hl 0 rfl) ?_
            refine vgX1_80 hx hb hT hown hK hM hr0 hq dcX1_keepRow_123 (fun v18 hq => ?_)
            obtain ⟨hz, hq⟩ := tw_nzI hq
            refine lv_irem hx hb dcX1_keepRow_126 hz ?_
            refine uw_iast cX_ok hU hx hb hK hM (cr_X1_15 hr0) hq dcX1_keepRow_127 (fun z19 H locs hM hq => ?_)
            refine lv_aload_n hx hb dcX1_keepRow_128 rfl (lv_at hl 0 rfl) ?_
            refine lv_dup hx hb dcX1_keepRow_129 rfl ?_
            refine vgX1_163 hx hb hT hown hK hM hr0 hq dcX1_keepRow_130 (fun v20 hq => ?_)
            refine lv_iconst (v := 1) hx hb dcX1_keepRow_133 (by decide) ?_
            refine lv_iadd hx hb dcX1_keepRow_134 ?_
            refine vpX1_163 hx hb hT hown hK hM hU hr0 hq dcX1_keepRow_135 (fun z21 H locs hM hq => ?_)
            refine lv_aload_n hx hb dcX1_keepRow_138 rfl (lv_at hl 0 rfl) ?_
            refine vgX1_46 hx hb hT hown hK hM hr0 dcX1_keepRow_139 ?_
            refine lv_iload hx hb dcX1_keepRow_142 (lv_at hl 4 rfl) ?_
            refine lv_iconst (v := 0) hx hb dcX1_keepRow_144 (by decide) ?_
            refine uw_iast cX_ok hU hx hb hK hM (cr_X1_10 hr0) hq dcX1_keepRow_145 (fun z22 H locs hM hq => ?_)
            exact ih_3 x1 x2 x3 x4 r0 vl u z22 H locs ls hr0 hU hst h0 hM (lv_sub hl [0, 1, 2, 3, 4] rfl) hq
      · intro x1 x2 x3 x4 r0 vl u z H locs ls hr0 hU hst h0 hM hl hq
        obtain ⟨hle, hq⟩ := dd_ch (show chV vl (dm_X1_keepRow_3 K (d_X1_keepRow K k) x1 x2 x3 x4 r0 vl z) = some (r, vlE, z1) from hq)
        unfold dm_X1_keepRow_3 at hq
        refine lv_iinc (v := (x4 + 1)) (lv' := [(4, .int (x4 + 1)), (0, .ref (u r0)), (1, .int x1), (2, .int x2), (3, .int x3)]) hx hb dcX1_keepRow_146 hl (k := 4) rfl rfl (by decide) rfl (fun ls hl => ?_)
        refine lv_goto (tgt := 78) hx hb dcX1_keepRow_149 (by decide) ?_
        exact ih_2 x1 x2 x3 (x4 + 1) r0 vl u z H locs ls hr0 hU hst h0 hM (lv_sub hl [1, 2, 3, 4, 0] rfl) hq
  refine W.widen (k := dca vl0 vl0) (n := dsl vl0 vl0) (Nat.zero_le _) (Nat.zero_le _) ?_
  exact (key K).1 x1 x2 0 0 r0 vl0 u0 z s.heap [] ls hr0 hU (fun _ _ => rfl) (Nat.le_refl _) hM (lv_sub hl [0, 1, 2] rfl) hq
theorem dcX1_reduce_0 : decode cX1_reduce 0 = .ok (.iconst 0, 1) := dw_at cX1_reduce_k0 (p := 0) rfl (by decide +kernel)
theorem dcX1_reduce_1 : decode cX1_reduce 1 = .ok (.istore_n 2, 1) := dw_at cX1_reduce_k0 (p := 1) rfl (by decide +kernel)
theorem dcX1_reduce_2 : decode cX1_reduce 2 = .ok (.iload_n 2, 1) := dw_at cX1_reduce_k0 (p := 2) rfl (by decide +kernel)
theorem dcX1_reduce_3 : decode cX1_reduce 3 = .ok (.iload_n 1, 1) := dw_at cX1_reduce_k0 (p := 3) rfl (by decide +kernel)
theorem dcX1_reduce_4 : decode cX1_reduce 4 = .ok (.if_icmp .ge 110, 3) := dw_at cX1_reduce_k0 (p := 4) rfl (by decide +kernel)
theorem dcX1_reduce_7 : decode cX1_reduce 7 = .ok (.aload_n 0, 1) := dw_at cX1_reduce_k0 (p := 7) rfl (by decide +kernel)
theorem dcX1_reduce_8 : decode cX1_reduce 8 = .ok (.getfield 46, 3) := dw_at cX1_reduce_k0 (p := 8) rfl (by decide +kernel)
theorem dcX1_reduce_11 : decode cX1_reduce 11 = .ok (.iload_n 2, 1) := dw_at cX1_reduce_k0 (p := 11) rfl (by decide +kernel)
theorem dcX1_reduce_12 : decode cX1_reduce 12 = .ok (.iaload, 1) := dw_at cX1_reduce_k0 (p := 12) rfl (by decide +kernel)
theorem dcX1_reduce_13 : decode cX1_reduce 13 = .ok (.istore_n 3, 1) := dw_at cX1_reduce_k0 (p := 13) rfl (by decide +kernel)
theorem dcX1_reduce_14 : decode cX1_reduce 14 = .ok (.iload_n 3, 1) := dw_at cX1_reduce_k0 (p := 14) rfl (by decide +kernel)
theorem dcX1_reduce_15 : decode cX1_reduce 15 = .ok (.ifCond .ne 6, 3) := dw_at cX1_reduce_k0 (p := 15) rfl (by decide +kernel)
theorem dcX1_reduce_18 : decode cX1_reduce 18 = .ok (.goto 90, 3) := dw_at cX1_reduce_k0 (p := 18) rfl (by decide +kernel)
theorem dcX1_reduce_21 : decode cX1_reduce 21 = .ok (.aload_n 0, 1) := dw_at cX1_reduce_k0 (p := 21) rfl (by decide +kernel)
theorem dcX1_reduce_22 : decode cX1_reduce 22 = .ok (.getfield 49, 3) := dw_at cX1_reduce_k0 (p := 22) rfl (by decide +kernel)
theorem dcX1_reduce_25 : decode cX1_reduce 25 = .ok (.iload_n 2, 1) := dw_at cX1_reduce_k1 (p := 0) rfl (by decide +kernel)
theorem dcX1_reduce_26 : decode cX1_reduce 26 = .ok (.iaload, 1) := dw_at cX1_reduce_k1 (p := 1) rfl (by decide +kernel)
theorem dcX1_reduce_27 : decode cX1_reduce 27 = .ok (.iconst (-1), 1) := dw_at cX1_reduce_k1 (p := 2) rfl (by decide +kernel)
theorem dcX1_reduce_28 : decode cX1_reduce 28 = .ok (.if_icmp .ne 11, 3) := dw_at cX1_reduce_k1 (p := 3) rfl (by decide +kernel)
theorem dcX1_reduce_31 : decode cX1_reduce 31 = .ok (.aload_n 0, 1) := dw_at cX1_reduce_k1 (p := 6) rfl (by decide +kernel)
theorem dcX1_reduce_32 : decode cX1_reduce 32 = .ok (.iload_n 2, 1) := dw_at cX1_reduce_k1 (p := 7) rfl (by decide +kernel)
theorem dcX1_reduce_33 : decode cX1_reduce 33 = .ok (.iload_n 1, 1) := dw_at cX1_reduce_k1 (p := 8) rfl (by decide +kernel)
theorem dcX1_reduce_34 : decode cX1_reduce 34 = .ok (.invokevirtual 187, 3) := dw_at cX1_reduce_k1 (p := 9) rfl (by decide +kernel)
theorem dcX1_reduce_37 : decode cX1_reduce 37 = .ok (.iconst 1, 1) := dw_at cX1_reduce_k1 (p := 12) rfl (by decide +kernel)
theorem dcX1_reduce_38 : decode cX1_reduce 38 = .ok (.ireturn, 1) := dw_at cX1_reduce_k1 (p := 13) rfl (by decide +kernel)
theorem dcX1_reduce_39 : decode cX1_reduce 39 = .ok (.aload_n 0, 1) := dw_at cX1_reduce_k1 (p := 14) rfl (by decide +kernel)
theorem dcX1_reduce_40 : decode cX1_reduce 40 = .ok (.getfield 49, 3) := dw_at cX1_reduce_k1 (p := 15) rfl (by decide +kernel)
theorem dcX1_reduce_43 : decode cX1_reduce 43 = .ok (.iload_n 2, 1) := dw_at cX1_reduce_k1 (p := 18) rfl (by decide +kernel)
theorem dcX1_reduce_44 : decode cX1_reduce 44 = .ok (.iaload, 1) := dw_at cX1_reduce_k1 (p := 19) rfl (by decide +kernel)
theorem dcX1_reduce_45 : decode cX1_reduce 45 = .ok (.istore 4, 2) := dw_at cX1_reduce_k1 (p := 20) rfl (by decide +kernel)
theorem dcX1_reduce_47 : decode cX1_reduce 47 = .ok (.iload 4, 2) := dw_at cX1_reduce_k1 (p := 22) rfl (by decide +kernel)
theorem dcX1_reduce_49 : decode cX1_reduce 49 = .ok (.aload_n 0, 1) := dw_at cX1_reduce_k2 (p := 0) rfl (by decide +kernel)
theorem dcX1_reduce_50 : decode cX1_reduce 50 = .ok (.getfield 52, 3) := dw_at cX1_reduce_k2 (p := 1) rfl (by decide +kernel)
theorem dcX1_reduce_53 : decode cX1_reduce 53 = .ok (.iload_n 2, 1) := dw_at cX1_reduce_k2 (p := 4) rfl (by decide +kernel)
theorem dcX1_reduce_54 : decode cX1_reduce 54 = .ok (.iaload, 1) := dw_at cX1_reduce_k2 (p := 5) rfl (by decide +kernel)
theorem dcX1_reduce_55 : decode cX1_reduce 55 = .ok (.if_icmp .ge 53, 3) := dw_at cX1_reduce_k2 (p := 6) rfl (by decide +kernel)
theorem dcX1_reduce_58 : decode cX1_reduce 58 = .ok (.aload_n 0, 1) := dw_at cX1_reduce_k2 (p := 9) rfl (by decide +kernel)
theorem dcX1_reduce_59 : decode cX1_reduce 59 = .ok (.getfield 46, 3) := dw_at cX1_reduce_k2 (p := 10) rfl (by decide +kernel)
theorem dcX1_reduce_62 : decode cX1_reduce 62 = .ok (.aload_n 0, 1) := dw_at cX1_reduce_k2 (p := 13) rfl (by decide +kernel)
theorem dcX1_reduce_63 : decode cX1_reduce 63 = .ok (.getfield 58, 3) := dw_at cX1_reduce_k2 (p := 14) rfl (by decide +kernel)
theorem dcX1_reduce_66 : decode cX1_reduce 66 = .ok (.iload 4, 2) := dw_at cX1_reduce_k2 (p := 17) rfl (by decide +kernel)
theorem dcX1_reduce_68 : decode cX1_reduce 68 = .ok (.iaload, 1) := dw_at cX1_reduce_k2 (p := 19) rfl (by decide +kernel)
theorem dcX1_reduce_69 : decode cX1_reduce 69 = .ok (.aload_n 0, 1) := dw_at cX1_reduce_k2 (p := 20) rfl (by decide +kernel)
theorem dcX1_reduce_70 : decode cX1_reduce 70 = .ok (.getfield 46, 3) := dw_at cX1_reduce_k2 (p := 21) rfl (by decide +kernel)
theorem dcX1_reduce_73 : decode cX1_reduce 73 = .ok (.aload_n 0, 1) := dw_at cX1_reduce_k3 (p := 0) rfl (by decide +kernel)
theorem dcX1_reduce_74 : decode cX1_reduce 74 = .ok (.getfield 58, 3) := dw_at cX1_reduce_k3 (p := 1) rfl (by decide +kernel)
theorem dcX1_reduce_77 : decode cX1_reduce 77 = .ok (.iload 4, 2) := dw_at cX1_reduce_k3 (p := 4) rfl (by decide +kernel)
theorem dcX1_reduce_79 : decode cX1_reduce 79 = .ok (.iaload, 1) := dw_at cX1_reduce_k3 (p := 6) rfl (by decide +kernel)
theorem dcX1_reduce_80 : decode cX1_reduce 80 = .ok (.iaload, 1) := dw_at cX1_reduce_k3 (p := 7) rfl (by decide +kernel)
theorem dcX1_reduce_81 : decode cX1_reduce 81 = .ok (.aload_n 0, 1) := dw_at cX1_reduce_k3 (p := 8) rfl (by decide +kernel)
theorem dcX1_reduce_82 : decode cX1_reduce 82 = .ok (.getfield 80, 3) := dw_at cX1_reduce_k3 (p := 9) rfl (by decide +kernel)
theorem dcX1_reduce_85 : decode cX1_reduce 85 = .ok (.iload_n 3, 1) := dw_at cX1_reduce_k3 (p := 12) rfl (by decide +kernel)
theorem dcX1_reduce_86 : decode cX1_reduce 86 = .ok (.isub, 1) := dw_at cX1_reduce_k3 (p := 13) rfl (by decide +kernel)
theorem dcX1_reduce_87 : decode cX1_reduce 87 = .ok (.aload_n 0, 1) := dw_at cX1_reduce_k3 (p := 14) rfl (by decide +kernel)
theorem dcX1_reduce_88 : decode cX1_reduce 88 = .ok (.getfield 61, 3) := dw_at cX1_reduce_k3 (p := 15) rfl (by decide +kernel)
theorem dcX1_reduce_91 : decode cX1_reduce 91 = .ok (.iload 4, 2) := dw_at cX1_reduce_k3 (p := 18) rfl (by decide +kernel)
theorem dcX1_reduce_93 : decode cX1_reduce 93 = .ok (.iaload, 1) := dw_at cX1_reduce_k3 (p := 20) rfl (by decide +kernel)
theorem dcX1_reduce_94 : decode cX1_reduce 94 = .ok (.imul, 1) := dw_at cX1_reduce_k3 (p := 21) rfl (by decide +kernel)
theorem dcX1_reduce_95 : decode cX1_reduce 95 = .ok (.iadd, 1) := dw_at cX1_reduce_k3 (p := 22) rfl (by decide +kernel)
theorem dcX1_reduce_96 : decode cX1_reduce 96 = .ok (.aload_n 0, 1) := dw_at cX1_reduce_k3 (p := 23) rfl (by decide +kernel)
theorem dcX1_reduce_97 : decode cX1_reduce 97 = .ok (.getfield 80, 3) := dw_at cX1_reduce_k4 (p := 0) rfl (by decide +kernel)
theorem dcX1_reduce_100 : decode cX1_reduce 100 = .ok (.irem, 1) := dw_at cX1_reduce_k4 (p := 3) rfl (by decide +kernel)
theorem dcX1_reduce_101 : decode cX1_reduce 101 = .ok (.iastore, 1) := dw_at cX1_reduce_k4 (p := 4) rfl (by decide +kernel)
theorem dcX1_reduce_102 : decode cX1_reduce 102 = .ok (.iinc 4 1, 3) := dw_at cX1_reduce_k4 (p := 5) rfl (by decide +kernel)
theorem dcX1_reduce_105 : decode cX1_reduce 105 = .ok (.goto (-58), 3) := dw_at cX1_reduce_k4 (p := 8) rfl (by decide +kernel)
theorem dcX1_reduce_108 : decode cX1_reduce 108 = .ok (.iinc 2 1, 3) := dw_at cX1_reduce_k4 (p := 11) rfl (by decide +kernel)
theorem dcX1_reduce_111 : decode cX1_reduce 111 = .ok (.goto (-109), 3) := dw_at cX1_reduce_k4 (p := 14) rfl (by decide +kernel)
theorem dcX1_reduce_114 : decode cX1_reduce 114 = .ok (.iconst 0, 1) := dw_at cX1_reduce_k4 (p := 17) rfl (by decide +kernel)
theorem dcX1_reduce_115 : decode cX1_reduce 115 = .ok (.ireturn, 1) := dw_at cX1_reduce_k4 (p := 18) rfl (by decide +kernel)
def dm_X1_reduce_0 (K : Nat) (go : Nat → Int32 → Int32 → Int32 → Int32 → Nat → (Nat → Nat) → ow_MS → Option (Int32 × (Nat → Nat) × ow_MS)) (x1 : Int32) (x2 : Int32) (x3 : Int32) (x4 : Int32) (r0 : Nat) (vl : Nat → Nat) (z : ow_MS) : Option (Int32 × (Nat → Nat) × ow_MS) :=
 go 1 x1 0 0 0 r0 vl z
def dm_X1_reduce_1 (K : Nat) (go : Nat → Int32 → Int32 → Int32 → Int32 → Nat → (Nat → Nat) → ow_MS → Option (Int32 × (Nat → Nat) × ow_MS)) (x1 : Int32) (x2 : Int32) (x3 : Int32) (x4 : Int32) (r0 : Nat) (vl : Nat → Nat) (z : ow_MS) : Option (Int32 × (Nat → Nat) × ow_MS) :=
 (if x1 ≤ x2 then some (0, vl, z)
 else crI (cX vl) z (r0 + 11) x2 fun v1 => (if v1 = 0 then go 3 x1 x2 v1 0 r0 vl z
 else crI (cX vl) z (r0 + 12) x2 fun v2 => (if v2 = (-1) then dc1 (de_X1_keepRow K r0 x2 x1 vl z) fun v5 vl z4 => chV vl (some (1, vl, z4))
 else crI (cX vl) z (r0 + 12) x2 fun v3 => go 2 x1 x2 v1 v3 r0 vl z)))
def dm_X1_reduce_2 (K : Nat) (go : Nat → Int32 → Int32 → Int32 → Int32 → Nat → (Nat → Nat) → ow_MS → Option (Int32 × (Nat → Nat) × ow_MS)) (x1 : Int32) (x2 : Int32) (x3 : Int32) (x4 : Int32) (r0 : Nat) (vl : Nat → Nat) (z : ow_MS) : Option (Int32 × (Nat → Nat) × ow_MS) :=
 crI (cX vl) z (r0 + 13) x2 fun v7 => (if v7 ≤ x4 then go 3 x1 x2 x3 0 r0 vl z
 else crI (cX vl) z (r0 + 15) x4 fun v8 => crI (cX vl) z (r0 + 15) x4 fun v9 => crI (cX vl) z (r0 + 11) v9 fun v10 => rdF z (r0 + 10) fun v11 => crI (cX vl) z (r0 + 16) x4 fun v12 => rdF z (r0 + 10) fun v13 => nzI v13 (ctI (cX vl) z (r0 + 11) v8 ((v10 + ((v11 - x3) * v12)) - (v10 + ((v11 - x3) * v12)) / v13 * v13) fun z14 => go 2 x1 x2 x3 (x4 + 1) r0 vl z14))
def dm_X1_reduce_3 (K : Nat) (go : Nat → Int32 → Int32 → Int32 → Int32 → Nat → (Nat → Nat) → ow_MS → Option (Int32 × (Nat → Nat) × ow_MS)) (x1 : Int32) (x2 : Int32) (x3 : Int32) (x4 : Int32) (r0 : Nat) (vl : Nat → Nat) (z : ow_MS) : Option (Int32 × (Nat → Nat) × ow_MS) :=
 go 1 x1 (x2 + 1) 0 0 r0 vl z
def db_X1_reduce (K : Nat) (go : Nat → Int32 → Int32 → Int32 → Int32 → Nat → (Nat → Nat) → ow_MS → Option (Int32 × (Nat → Nat) × ow_MS)) (L : Nat) (x1 : Int32) (x2 : Int32) (x3 : Int32) (x4 : Int32) (r0 : Nat) (vl : Nat → Nat) (z : ow_MS) : Option (Int32 × (Nat → Nat) × ow_MS) := match L with
  | 0 => chV vl (dm_X1_reduce_0 K go x1 x2 x3 x4 r0 vl z)
  | 1 => chV vl (dm_X1_reduce_1 K go x1 x2 x3 x4 r0 vl z)
  | 2 => chV vl (dm_X1_reduce_2 K go x1 x2 x3 x4 r0 vl z)
  | 3 => chV vl (dm_X1_reduce_3 K go x1 x2 x3 x4 r0 vl z)
  | _ => none
def d_X1_reduce (K : Nat) : Nat → Nat → Int32 → Int32 → Int32 → Int32 → Nat → (Nat → Nat) → ow_MS → Option (Int32 × (Nat → Nat) × ow_MS)
  | 0 => fun _ _ _ _ _ _ _ _ => none
  | k + 1 => db_X1_reduce K (d_X1_reduce K k)
def de_X1_reduce (K : Nat) (r0 : Nat) (x1 : Int32) (vl : Nat → Nat) (z : ow_MS) : Option (Int32 × (Nat → Nat) × ow_MS) := d_X1_reduce K K 0 x1 0 0 0 r0 vl z
theorem dl_X1_reduce {K : Nat} {r0 : Nat} {x1 : Int32} {vl vlE : Nat → Nat} {z z1 : ow_MS} {r : Int32} (h : de_X1_reduce K r0 x1 vl z = some (r, vlE, z1)) : dPhi vl ≤ dPhi vlE := by
  cases K with
  | zero => exact cw_no h
  | succ k => exact (dd_ch (show chV vl (dm_X1_reduce_0 (k + 1) (d_X1_reduce (k + 1) k) x1 0 0 0 r0 vl z) = some (r, vlE, z1) from h)).1
abbrev wc_X1_reduce : List Cond := .code yX1_reduce cX1_reduce 5 (some .int) :: wD
theorem cdd_X1_reduce : yX1_reduce.cls = RX1 ∧ yX1_reduce.cls ≠ "java/lang/invoke/MethodHandle" ∧ yX1_reduce.cls ≠ "java/lang/invoke/VarHandle" ∧ (parseMethodDescriptor yX1_reduce.desc).map (fun d => d.parameters.length) = some 1 := by decide +kernel
set_option maxHeartbeats 4000000 in
set_option maxRecDepth 100000 in
theorem kd_X1_reduce (l : Launch) (D : va_G) (q : Nat → ClassId) (vl0 u0 : Nat → Nat) (hU0 : tw_inj (cX vl0) u0) (K : Nat) (r0 : Nat) (x1 : Int32) (hr0 : cw_X1 r0) (z z1 : ow_MS) (vlE : Nat → Nat) (r : Int32) (sz : Nat) (hq : de_X1_reduce K r0 x1 vl0 z = some (r, vlE, z1)) : Met l yX1_reduce wc_X1_reduce ({ frames := 3, cells := dca vl0 vlE, slots := dsl vl0 vlE, locals := 106 } : Room) (va_Pc [.ref (u0 r0), .int x1] (cw_preD D q vl0 u0 z sz)) (va_Qi (fun x (u1 : Nat → Nat) => x = r ∧ cd_U u0 u1 sz) (fun u1 t => va_P D vwCl (uw (cX vlE) q u1 z1) t.heap) (cd_A u0 sz)) (dca vl0 vlE) (dsl vl0 vlE) (cd_A u0 sz) := by
  refine Met.ofW (cc := cX1_reduce) (maxL := 5) (ret := (some .int)) (by decide) rfl ?_
  intro p e s m args below meth c s₁ B hml hv
  obtain ⟨rfl, rfl, hP, hK⟩ := hv
  have hx := B.exec
  have hb := B.bytes
  have hr := B.returns
  have hts := atoms_spec (ws := wc_X1_reduce) B.pre
  have hT : ∀ w ∈ wC, w.before ([.ref (u0 r0), .int x1] : List Value).toArray s = true := fun w h => hts w (List.mem_cons_of_mem _ (List.mem_cons_of_mem _ h))
  have hown : s.vm.findClass RX1 = some m.cls := findClass_of_methodNamed B.named
  have hlocks := B.notSynchronized
  have hA : ∀ q1 : Nat, s.heap.size ≤ q1 → cd_A u0 s.heap.size q1 := fun q1 h => Or.inr h
  have hU : uw_inj (cX vl0) u0 (cd_A u0 s.heap.size) := ⟨hU0, fun h hh => Or.inl ⟨h, hh, rfl⟩⟩
  have hM : uw_M D vwCl (cX vl0) q (cd_A u0 s.heap.size) s.heap u0 z s.heap [] := ⟨hP, va_S.rf⟩
  have hl := lv_entry ([.ref (u0 r0), .int x1]) (n := 5) (Nat.le_of_ble_eq_true rfl)
  rw [lg_entry_eq]
  generalize (lg_sl ([.ref (u0 r0), .int x1]) ++ List.replicate (5 - (lg_sl ([.ref (u0 r0), .int x1])).length) Slot.unset).toArray = ls at hl ⊢
  have hl : lv_has ls 5 [(0, .ref (u0 r0)), (1, .int x1)] := hl
  refine ow_named (fun QQ hQQ => ?_)
  generalize ([.ref (u0 r0), .int x1] : List Value).toArray = args at hts hT hQQ ⊢
  have key : ∀ k : Nat, (∀ (x1 : Int32) (x2 : Int32) (x3 : Int32) (x4 : Int32) (r0 : Nat) (vl u : Nat → Nat) (z : ow_MS) (H : Heap) (locs : List Loc) (ls : Array Slot), cw_X1 r0 → uw_inj (cX vl) u (cd_A u0 s.heap.size) → (∀ h, h ∉ dynL → u h = u0 h) → dPhi vl0 ≤ dPhi vl → uw_M D vwCl (cX vl) q (cd_A u0 s.heap.size) s.heap u z H locs → lv_has ls 5 [(0, .ref (u r0)), (1, .int x1)] → d_X1_reduce K k 0 x1 x2 x3 x4 r0 vl z = some (r, vlE, z1) → W p l e ({ frames := 3, cells := dca vl0 vlE, slots := dsl vl0 vlE, locals := 106 } : Room) s m args below meth c H locs (dca vl0 vl) (dsl vl0 vl) QQ (F0 m 0 ls [])) ∧ (∀ (x1 : Int32) (x2 : Int32) (x3 : Int32) (x4 : Int32) (r0 : Nat) (vl u : Nat → Nat) (z : ow_MS) (H : Heap) (locs : List Loc) (ls : Array Slot), cw_X1 r0 → uw_inj (cX vl) u (cd_A u0 s.heap.size) → (∀ h, h ∉ dynL → u h = u0 h) → dPhi vl0 ≤ dPhi vl → uw_M D vwCl (cX vl) q (cd_A u0 s.heap.size) s.heap u z H locs → lv_has ls 5 [(0, .ref (u r0)), (1, .int x1), (2, .int x2)] → d_X1_reduce K k 1 x1 x2 x3 x4 r0 vl z = some (r, vlE, z1) → W p l e ({ frames := 3, cells := dca vl0 vlE, slots := dsl vl0 vlE, locals := 106 } : Room) s m args below meth c H locs (dca vl0 vl) (dsl vl0 vl) QQ (F0 m 2 ls [])) ∧ (∀ (x1 : Int32) (x2 : Int32) (x3 : Int32) (x4 : Int32) (r0 : Nat) (vl u : Nat → Nat) (z : ow_MS) (H : Heap) (locs : List Loc) (ls : Array Slot), cw_X1 r0 → uw_inj (cX vl) u (cd_A u0 s.heap.size) → (∀ h, h ∉ dynL → u h = u0 h) → dPhi vl0 ≤ dPhi vl → uw_M D vwCl (cX vl) q (cd_A u0 s.heap.size) s.heap u z H locs → lv_has ls 5 [(0, .ref (u r0)), (1, .int x1), (2, .int x2), (3, .int x3), (4, .int x4)] → d_X1_reduce K k 2 x1 x2 x3 x4 r0 vl z = some (r, vlE, z1) → W p l e ({ frames := 3, cells := dca vl0 vlE, slots := dsl vl0 vlE, locals := 106 } : Room) s m args below meth c H locs (dca vl0 vl) (dsl vl0 vl) QQ (F0 m 47 ls [])) ∧ (∀ (x1 : Int32) (x2 : Int32) (x3 : Int32) (x4 : Int32) (r0 : Nat) (vl u : Nat → Nat) (z : ow_MS) (H : Heap) (locs : List Loc) (ls : Array Slot), cw_X1 r0 → uw_inj (cX vl) u (cd_A u0 s.heap.size) → (∀ h, h ∉ dynL → u h = u0 h) → dPhi vl0 ≤ dPhi vl → uw_M D vwCl (cX vl) q (cd_A u0 s.heap.size) s.heap u z H locs → lv_has ls 5 [(0, .ref (u r0)), (1, .int x1), (2, .int x2), (3, .int x3)] → d_X1_reduce K k 3 x1 x2 x3 x4 r0 vl z = some (r, vlE, z1) → W p l e ({ frames := 3, cells := dca vl0 vlE, slots := dsl vl0 vlE, locals := 106 } : Room) s m args below meth c H locs (dca vl0 vl) (dsl vl0 vl) QQ (F0 m 108 ls [])) := by
    intro k
    induction k with
    | zero => exact ⟨fun _ _ _ _ _ _ _ _ _ _ _ _ _ _ _ _ _ hq => cw_no hq, fun _ _ _ _ _ _ _ _ _ _ _ _ _ _ _ _ _ hq => cw_no hq, fun _ _ _ _ _ _ _ _ _ _ _ _ _ _ _ _ _ hq => cw_no hq, fun _ _ _ _ _ _ _ _ _ _ _ _ _ _ _ _ _ hq => cw_no hq⟩
    | succ k ih =>
      obtain ⟨ih_0, ih_1, ih_2, ih_3⟩ := ih
      refine ⟨?_, ?_, ?_, ?_⟩
      · intro x1 x2 x3 x4 r0 vl u z H locs ls hr0 hU hst h0 hM hl hq
        obtain ⟨hle, hq⟩ := dd_ch (show chV vl (dm_X1_reduce_0 K (d_X1_reduce K k) x1 x2 x3 x4 r0 vl z) = some (r, vlE, z1) from hq)
        unfold dm_X1_reduce_0 at hq
        refine lv_iconst (v := 0) hx hb dcX1_reduce_0 (by decide) ?_
        refine lv_istore_n (lv' := [(2, .int 0), (0, .ref (u r0)), (1, .int x1)]) hx hb dcX1_reduce_1 rfl hl (by decide) rfl (fun ls hl => ?_)
        exact ih_1 x1 0 0 0 r0 vl u z H locs ls hr0 hU hst h0 hM (lv_sub hl [1, 2, 0] rfl) hq
      · intro x1 x2 x3 x4 r0 vl u z H locs ls hr0 hU hst h0 hM hl hq
        obtain ⟨hle, hq⟩ := dd_ch (show chV vl (dm_X1_reduce_1 K (d_X1_reduce K k) x1 x2 x3 x4 r0 vl z) = some (r, vlE, z1) from hq)
        unfold dm_X1_reduce_1 at hq
        refine lv_iload_n hx hb dcX1_reduce_2 rfl (lv_at hl 2 rfl) ?_
        refine lv_iload_n hx hb dcX1_reduce_3 rfl (lv_at hl 1 rfl) ?_
        refine lv_icmp_ge (tgt := 114) hx hb dcX1_reduce_4 (by decide) (fun hc => ?_) (fun hc => ?_)
        · have hq := tw_it hq hc
          refine lv_iconst (v := 0) hx hb dcX1_reduce_114 (by decide) ?_
          exact dd_iret hx hb hr hlocks hU hst hM hq hQQ dcX1_reduce_115
        · have hq := tw_if hq hc
          refine lv_aload_n hx hb dcX1_reduce_7 rfl (lv_at hl 0 rfl) ?_
          refine vgX1_46 hx hb hT hown hK hM hr0 dcX1_reduce_8 ?_
          refine lv_iload_n hx hb dcX1_reduce_11 rfl (lv_at hl 2 rfl) ?_
          refine uw_iald cX_ok hx hb hK hM (cr_X1_10 hr0) hq dcX1_reduce_12 (fun v1 hq => ?_)
          refine lv_istore_n (lv' := [(3, .int v1), (0, .ref (u r0)), (1, .int x1), (2, .int x2)]) hx hb dcX1_reduce_13 rfl hl (by decide) rfl (fun ls hl => ?_)
          refine lv_iload_n hx hb dcX1_reduce_14 rfl (lv_at hl 0 rfl) ?_
          refine lv_if_ne (tgt := 21) hx hb dcX1_reduce_15 (by decide) (fun hc => ?_) (fun hc => ?_)
          · have hq := tw_if hq hc
            refine lv_aload_n hx hb dcX1_reduce_21 rfl (lv_at hl 1 rfl) ?_
            refine vgX1_49 hx hb hT hown hK hM hr0 dcX1_reduce_22 ?_
            refine lv_iload_n hx hb dcX1_reduce_25 rfl (lv_at hl 3 rfl) ?_
            refine uw_iald cX_ok hx hb hK hM (cr_X1_11 hr0) hq dcX1_reduce_26 (fun v2 hq => ?_)
            refine lv_iconst (v := (-1)) hx hb dcX1_reduce_27 (by decide) ?_
            refine lv_icmp_ne (tgt := 39) hx hb dcX1_reduce_28 (by decide) (fun hc => ?_) (fun hc => ?_)
            · have hq := tw_if hq hc
              refine lv_aload_n hx hb dcX1_reduce_39 rfl (lv_at hl 1 rfl) ?_
              refine vgX1_49 hx hb hT hown hK hM hr0 dcX1_reduce_40 ?_
              refine lv_iload_n hx hb dcX1_reduce_43 rfl (lv_at hl 3 rfl) ?_
              refine uw_iald cX_ok hx hb hK hM (cr_X1_11 hr0) hq dcX1_reduce_44 (fun v3 hq => ?_)
              refine lv_istore (lv' := [(4, .int v3), (3, .int v1), (0, .ref (u r0)), (1, .int x1), (2, .int x2)]) hx hb dcX1_reduce_45 hl (by decide) rfl (fun ls hl => ?_)
              exact ih_2 x1 x2 v1 v3 r0 vl u z H locs ls hr0 hU hst h0 hM (lv_sub hl [2, 3, 4, 1, 0] rfl) hq
            · have hq := tw_it hq hc
              refine lv_aload_n hx hb dcX1_reduce_31 rfl (lv_at hl 1 rfl) ?_
              refine lv_iload_n hx hb dcX1_reduce_32 rfl (lv_at hl 3 rfl) ?_
              refine lv_iload_n hx hb dcX1_reduce_33 rfl (lv_at hl 2 rfl) ?_
              obtain ⟨v5, vm6, z4, hcq, hq⟩ := dd_dc1 hq
              obtain ⟨hle1, hq⟩ := dd_ch hq
              have hcl := dl_X1_keepRow hcq
              refine dd_calv hA hU hM h0 hcl (va_runV (As := [.int x2, .int x1]) (rest := []) ⟨hx, hb, hml, hown, hts⟩ (kd_X1_keepRow l D q vl u hU.1 K r0 x2 x1 hr0 z z4 vm6 v5 H.size hcq) (cwV 2 hts (tw_gV2 wD_good (fun _ h => h) (List.mem_cons_of_mem _ xq_244) (List.mem_cons_of_mem _ xq_245) (List.mem_cons_of_mem _ xq_246) (List.mem_cons_of_mem _ xq_138) (List.mem_cons_of_mem _ xq_247)) rfl rfl rfl cdd_X1_keepRow ⟨(Nat.le_of_ble_eq_true rfl), (Nat.le_of_ble_eq_true rfl)⟩) (dd_preV hK hM (co_X1 hr0) rfl) rfl rfl hl.1 rfl (lv_room (Nat.le_of_ble_eq_true rfl)) dcX1_reduce_34 ⟨Nat.le_trans (dca_add h0 hcl) (dca_le hle1), Nat.le_trans (dsl_add h0 hcl) (dsl_le hle1)⟩) (fun u H locs hU hs1 hM => ?_)
              have h0 := Nat.le_trans h0 hcl
              have hle := hle1
              clear hle1
              have hl : lv_has ls 5 [(3, .int v1), (0, .ref (u r0)), (1, .int x1), (2, .int x2)] := by rw [hs1 r0 (ns_X1 hr0)]; exact hl
              have hst : ∀ h, h ∉ dynL → u h = u0 h := fun h hh => (hs1 h hh).trans (hst h hh)
              obtain ⟨vl, hvl⟩ : ∃ v, v = vm6 := ⟨_, rfl⟩
              rw [← hvl] at hU h0 hle hM hq ⊢
              refine lv_iconst (v := 1) hx hb dcX1_reduce_37 (by decide) ?_
              exact dd_iret hx hb hr hlocks hU hst hM hq hQQ dcX1_reduce_38
          · have hq := tw_it hq hc
            refine lv_goto (tgt := 108) hx hb dcX1_reduce_18 (by decide) ?_
            exact ih_3 x1 x2 v1 0 r0 vl u z H locs ls hr0 hU hst h0 hM (lv_sub hl [1, 2, 3, 0] rfl) hq
      · intro x1 x2 x3 x4 r0 vl u z H locs ls hr0 hU hst h0 hM hl hq
        obtain ⟨hle, hq⟩ := dd_ch (show chV vl (dm_X1_reduce_2 K (d_X1_reduce K k) x1 x2 x3 x4 r0 vl z) = some (r, vlE, z1) from hq)
        unfold dm_X1_reduce_2 at hq
        refine lv_iload hx hb dcX1_reduce_47 (lv_at hl 4 rfl) ?_
        refine lv_aload_n hx hb dcX1_reduce_49 rfl (lv_at hl 0 rfl) ?_
        refine vgX1_52 hx hb hT hown hK hM hr0 dcX1_reduce_50 ?_
        refine lv_iload_n hx hb dcX1_reduce_53 rfl (lv_at hl 2 rfl) ?_
        refine uw_iald cX_ok hx hb hK hM (cr_X1_12 hr0) hq dcX1_reduce_54 (fun v7 hq => ?_)
        refine lv_icmp_ge (tgt := 108) hx hb dcX1_reduce_55 (by decide) (fun hc => ?_) (fun hc => ?_)
        · have hq := tw_it hq hc
          exact ih_3 x1 x2 x3 0 r0 vl u z H locs ls hr0 hU hst h0 hM (lv_sub hl [0, 1, 2, 3] rfl) hq
        · have hq := tw_if hq hc
          refine lv_aload_n hx hb dcX1_reduce_58 rfl (lv_at hl 0 rfl) ?_
          refine vgX1_46 hx hb hT hown hK hM hr0 dcX1_reduce_59 ?_
          refine lv_aload_n hx hb dcX1_reduce_62 rfl (lv_at hl 0 rfl) ?_
          refine vgX1_58 hx hb hT hown hK hM hr0 dcX1_reduce_63 ?_
          refine lv_iload hx hb dcX1_reduce_66 (lv_at hl 4 rfl) ?_
          refine uw_iald cX_ok hx hb hK hM (cr_X1_14 hr0) hq dcX1_reduce_68 (fun v8 hq => ?_)
          refine lv_aload_n hx hb dcX1_reduce_69 rfl (lv_at hl 0 rfl) ?_
          refine vgX1_46 hx hb hT hown hK hM hr0 dcX1_reduce_70 ?_
          refine lv_aload_n hx hb dcX1_reduce_73 rfl (lv_at hl 0 rfl) ?_
          refine vgX1_58 hx hb hT hown hK hM hr0 dcX1_reduce_74 ?_
          refine lv_iload hx hb dcX1_reduce_77 (lv_at hl 4 rfl) ?_
          refine uw_iald cX_ok hx hb hK hM (cr_X1_14 hr0) hq dcX1_reduce_79 (fun v9 hq => ?_)
          refine uw_iald cX_ok hx hb hK hM (cr_X1_10 hr0) hq dcX1_reduce_80 (fun v10 hq => ?_)
          refine lv_aload_n hx hb dcX1_reduce_81 rfl (lv_at hl 0 rfl) ?_
          refine vgX1_80 hx hb hT hown hK hM hr0 hq dcX1_reduce_82 (fun v11 hq => ?_)
          refine lv_iload_n hx hb dcX1_reduce_85 rfl (lv_at hl 3 rfl) ?_
          refine lv_isub hx hb dcX1_reduce_86 ?_
          refine lv_aload_n hx hb dcX1_reduce_87 rfl (lv_at hl 0 rfl) ?_
          refine vgX1_61 hx hb hT hown hK hM hr0 dcX1_reduce_88 ?_
          refine lv_iload hx hb dcX1_reduce_91 (lv_at hl 4 rfl) ?_
          refine uw_iald cX_ok hx hb hK hM (cr_X1_15 hr0) hq dcX1_reduce_93 (fun v12 hq => ?_)
          refine lv_imul hx hb dcX1_reduce_94 ?_
          refine lv_iadd hx hb dcX1_reduce_95 ?_
          refine lv_aload_n hx hb dcX1_reduce_96 rfl (lv_at hl 0 rfl) ?_
          refine vgX1_80 hx hb hT hown hK hM hr0 hq dcX1_reduce_97 (fun v13 hq => ?_)
          obtain ⟨hz, hq⟩ := tw_nzI hq
          refine lv_irem hx hb dcX1_reduce_100 hz ?_
          refine uw_iast cX_ok hU hx hb hK hM (cr_X1_10 hr0) hq dcX1_reduce_101 (fun z14 H locs hM hq => ?_)
          refine lv_iinc (v := (x4 + 1)) (lv' := [(4, .int (x4 + 1)), (0, .ref (u r0)), (1, .int x1), (2, .int x2), (3, .int x3)]) hx hb dcX1_reduce_102 hl (k := 4) rfl rfl (by decide) rfl (fun ls hl => ?_)
          refine lv_goto (tgt := 47) hx hb dcX1_reduce_105 (by decide) ?_
          exact ih_2 x1 x2 x3 (x4 + 1) r0 vl u z14 H locs ls hr0 hU hst h0 hM (lv_sub hl [1, 2, 3, 4, 0] rfl) hq
      · intro x1 x2 x3 x4 r0 vl u z H locs ls hr0 hU hst h0 hM hl hq
        obtain ⟨hle, hq⟩ := dd_ch (show chV vl (dm_X1_reduce_3 K (d_X1_reduce K k) x1 x2 x3 x4 r0 vl z) = some (r, vlE, z1) from hq)
        unfold dm_X1_reduce_3 at hq
        refine lv_iinc (v := (x2 + 1)) (lv' := [(2, .int (x2 + 1)), (0, .ref (u r0)), (1, .int x1), (3, .int x3)]) hx hb dcX1_reduce_108 hl (k := 2) rfl rfl (by decide) rfl (fun ls hl => ?_)
        refine lv_goto (tgt := 2) hx hb dcX1_reduce_111 (by decide) ?_
        exact ih_1 x1 (x2 + 1) 0 0 r0 vl u z H locs ls hr0 hU hst h0 hM (lv_sub hl [1, 2, 0] rfl) hq
  refine W.widen (k := dca vl0 vl0) (n := dsl vl0 vl0) (Nat.zero_le _) (Nat.zero_le _) ?_
  exact (key K).1 x1 0 0 0 r0 vl0 u0 z s.heap [] ls hr0 hU (fun _ _ => rfl) (Nat.le_refl _) hM (lv_sub hl [0, 1] rfl) hq
theorem dcX1_eliminate_0 : decode cX1_eliminate 0 = .ok (.aload_n 0, 1) := dw_at cX1_eliminate_k0 (p := 0) rfl (by decide +kernel)
theorem dcX1_eliminate_1 : decode cX1_eliminate 1 = .ok (.getfield 43, 3) := dw_at cX1_eliminate_k0 (p := 1) rfl (by decide +kernel)
theorem dcX1_eliminate_4 : decode cX1_eliminate 4 = .ok (.iload_n 1, 1) := dw_at cX1_eliminate_k0 (p := 4) rfl (by decide +kernel)
theorem dcX1_eliminate_5 : decode cX1_eliminate 5 = .ok (.iconst 1, 1) := dw_at cX1_eliminate_k0 (p := 5) rfl (by decide +kernel)
theorem dcX1_eliminate_6 : decode cX1_eliminate 6 = .ok (.iadd, 1) := dw_at cX1_eliminate_k0 (p := 6) rfl (by decide +kernel)
theorem dcX1_eliminate_7 : decode cX1_eliminate 7 = .ok (.iaload, 1) := dw_at cX1_eliminate_k0 (p := 7) rfl (by decide +kernel)
theorem dcX1_eliminate_8 : decode cX1_eliminate 8 = .ok (.istore_n 2, 1) := dw_at cX1_eliminate_k0 (p := 8) rfl (by decide +kernel)
theorem dcX1_eliminate_9 : decode cX1_eliminate 9 = .ok (.iconst 0, 1) := dw_at cX1_eliminate_k0 (p := 9) rfl (by decide +kernel)
theorem dcX1_eliminate_10 : decode cX1_eliminate 10 = .ok (.istore_n 3, 1) := dw_at cX1_eliminate_k0 (p := 10) rfl (by decide +kernel)
theorem dcX1_eliminate_11 : decode cX1_eliminate 11 = .ok (.aload_n 0, 1) := dw_at cX1_eliminate_k0 (p := 11) rfl (by decide +kernel)
theorem dcX1_eliminate_12 : decode cX1_eliminate 12 = .ok (.iconst 0, 1) := dw_at cX1_eliminate_k0 (p := 12) rfl (by decide +kernel)
theorem dcX1_eliminate_13 : decode cX1_eliminate 13 = .ok (.putfield 163, 3) := dw_at cX1_eliminate_k0 (p := 13) rfl (by decide +kernel)
theorem dcX1_eliminate_16 : decode cX1_eliminate 16 = .ok (.aload_n 0, 1) := dw_at cX1_eliminate_k0 (p := 16) rfl (by decide +kernel)
theorem dcX1_eliminate_17 : decode cX1_eliminate 17 = .ok (.getfield 49, 3) := dw_at cX1_eliminate_k0 (p := 17) rfl (by decide +kernel)
theorem dcX1_eliminate_20 : decode cX1_eliminate 20 = .ok (.iconst 0, 1) := dw_at cX1_eliminate_k0 (p := 20) rfl (by decide +kernel)
theorem dcX1_eliminate_21 : decode cX1_eliminate 21 = .ok (.iload_n 2, 1) := dw_at cX1_eliminate_k0 (p := 21) rfl (by decide +kernel)
theorem dcX1_eliminate_22 : decode cX1_eliminate 22 = .ok (.iconst (-1), 1) := dw_at cX1_eliminate_k0 (p := 22) rfl (by decide +kernel)
theorem dcX1_eliminate_23 : decode cX1_eliminate 23 = .ok (.invokestatic 166, 3) := dw_at cX1_eliminate_k0 (p := 23) rfl (by decide +kernel)
theorem dcX1_eliminate_26 : decode cX1_eliminate 26 = .ok (.aload_n 0, 1) := dw_at cX1_eliminate_k1 (p := 0) rfl (by decide +kernel)
theorem dcX1_eliminate_27 : decode cX1_eliminate 27 = .ok (.getfield 46, 3) := dw_at cX1_eliminate_k1 (p := 1) rfl (by decide +kernel)
theorem dcX1_eliminate_30 : decode cX1_eliminate 30 = .ok (.iconst 0, 1) := dw_at cX1_eliminate_k1 (p := 4) rfl (by decide +kernel)
theorem dcX1_eliminate_31 : decode cX1_eliminate 31 = .ok (.iload_n 2, 1) := dw_at cX1_eliminate_k1 (p := 5) rfl (by decide +kernel)
theorem dcX1_eliminate_32 : decode cX1_eliminate 32 = .ok (.iconst 0, 1) := dw_at cX1_eliminate_k1 (p := 6) rfl (by decide +kernel)
theorem dcX1_eliminate_33 : decode cX1_eliminate 33 = .ok (.invokestatic 166, 3) := dw_at cX1_eliminate_k1 (p := 7) rfl (by decide +kernel)
theorem dcX1_eliminate_36 : decode cX1_eliminate 36 = .ok (.iconst 0, 1) := dw_at cX1_eliminate_k1 (p := 10) rfl (by decide +kernel)
theorem dcX1_eliminate_37 : decode cX1_eliminate 37 = .ok (.istore 4, 2) := dw_at cX1_eliminate_k1 (p := 11) rfl (by decide +kernel)
theorem dcX1_eliminate_39 : decode cX1_eliminate 39 = .ok (.iload 4, 2) := dw_at cX1_eliminate_k1 (p := 13) rfl (by decide +kernel)
theorem dcX1_eliminate_41 : decode cX1_eliminate 41 = .ok (.iconst 1, 1) := dw_at cX1_eliminate_k1 (p := 15) rfl (by decide +kernel)
theorem dcX1_eliminate_42 : decode cX1_eliminate 42 = .ok (.aload_n 0, 1) := dw_at cX1_eliminate_k1 (p := 16) rfl (by decide +kernel)
theorem dcX1_eliminate_43 : decode cX1_eliminate 43 = .ok (.getfield 12, 3) := dw_at cX1_eliminate_k1 (p := 17) rfl (by decide +kernel)
theorem dcX1_eliminate_46 : decode cX1_eliminate 46 = .ok (.getfield 90, 3) := dw_at cX1_eliminate_k1 (p := 20) rfl (by decide +kernel)
theorem dcX1_eliminate_49 : decode cX1_eliminate 49 = .ok (.ishl, 1) := dw_at cX1_eliminate_k1 (p := 23) rfl (by decide +kernel)
theorem dcX1_eliminate_50 : decode cX1_eliminate 50 = .ok (.if_icmp .ge 109, 3) := dw_at cX1_eliminate_k2 (p := 0) rfl (by decide +kernel)
theorem dcX1_eliminate_53 : decode cX1_eliminate 53 = .ok (.iload 4, 2) := dw_at cX1_eliminate_k2 (p := 3) rfl (by decide +kernel)
theorem dcX1_eliminate_55 : decode cX1_eliminate 55 = .ok (.invokestatic 67, 3) := dw_at cX1_eliminate_k2 (p := 5) rfl (by decide +kernel)
theorem dcX1_eliminate_58 : decode cX1_eliminate 58 = .ok (.iload_n 1, 1) := dw_at cX1_eliminate_k2 (p := 8) rfl (by decide +kernel)
theorem dcX1_eliminate_59 : decode cX1_eliminate 59 = .ok (.if_icmp .ne 94, 3) := dw_at cX1_eliminate_k2 (p := 9) rfl (by decide +kernel)
theorem dcX1_eliminate_62 : decode cX1_eliminate 62 = .ok (.aload_n 0, 1) := dw_at cX1_eliminate_k2 (p := 12) rfl (by decide +kernel)
theorem dcX1_eliminate_63 : decode cX1_eliminate 63 = .ok (.getfield 37, 3) := dw_at cX1_eliminate_k2 (p := 13) rfl (by decide +kernel)
theorem dcX1_eliminate_66 : decode cX1_eliminate 66 = .ok (.iload 4, 2) := dw_at cX1_eliminate_k2 (p := 16) rfl (by decide +kernel)
theorem dcX1_eliminate_68 : decode cX1_eliminate 68 = .ok (.iaload, 1) := dw_at cX1_eliminate_k2 (p := 18) rfl (by decide +kernel)
theorem dcX1_eliminate_69 : decode cX1_eliminate 69 = .ok (.iconst (-1), 1) := dw_at cX1_eliminate_k2 (p := 19) rfl (by decide +kernel)
theorem dcX1_eliminate_70 : decode cX1_eliminate 70 = .ok (.if_icmp .ne 6, 3) := dw_at cX1_eliminate_k2 (p := 20) rfl (by decide +kernel)
theorem dcX1_eliminate_73 : decode cX1_eliminate 73 = .ok (.goto 80, 3) := dw_at cX1_eliminate_k2 (p := 23) rfl (by decide +kernel)
theorem dcX1_eliminate_76 : decode cX1_eliminate 76 = .ok (.iconst 0, 1) := dw_at cX1_eliminate_k3 (p := 0) rfl (by decide +kernel)
theorem dcX1_eliminate_77 : decode cX1_eliminate 77 = .ok (.istore 5, 2) := dw_at cX1_eliminate_k3 (p := 1) rfl (by decide +kernel)
theorem dcX1_eliminate_79 : decode cX1_eliminate 79 = .ok (.iload 5, 2) := dw_at cX1_eliminate_k3 (p := 3) rfl (by decide +kernel)
theorem dcX1_eliminate_81 : decode cX1_eliminate 81 = .ok (.iconst 1, 1) := dw_at cX1_eliminate_k3 (p := 5) rfl (by decide +kernel)
theorem dcX1_eliminate_82 : decode cX1_eliminate 82 = .ok (.aload_n 0, 1) := dw_at cX1_eliminate_k3 (p := 6) rfl (by decide +kernel)
theorem dcX1_eliminate_83 : decode cX1_eliminate 83 = .ok (.getfield 22, 3) := dw_at cX1_eliminate_k3 (p := 7) rfl (by decide +kernel)
theorem dcX1_eliminate_86 : decode cX1_eliminate 86 = .ok (.iload 4, 2) := dw_at cX1_eliminate_k3 (p := 10) rfl (by decide +kernel)
theorem dcX1_eliminate_88 : decode cX1_eliminate 88 = .ok (.iaload, 1) := dw_at cX1_eliminate_k3 (p := 12) rfl (by decide +kernel)
theorem dcX1_eliminate_89 : decode cX1_eliminate 89 = .ok (.ishl, 1) := dw_at cX1_eliminate_k3 (p := 13) rfl (by decide +kernel)
theorem dcX1_eliminate_90 : decode cX1_eliminate 90 = .ok (.if_icmp .ge 63, 3) := dw_at cX1_eliminate_k3 (p := 14) rfl (by decide +kernel)
theorem dcX1_eliminate_93 : decode cX1_eliminate 93 = .ok (.iload 5, 2) := dw_at cX1_eliminate_k3 (p := 17) rfl (by decide +kernel)
theorem dcX1_eliminate_95 : decode cX1_eliminate 95 = .ok (.invokestatic 67, 3) := dw_at cX1_eliminate_k3 (p := 19) rfl (by decide +kernel)
theorem dcX1_eliminate_98 : decode cX1_eliminate 98 = .ok (.aload_n 0, 1) := dw_at cX1_eliminate_k3 (p := 22) rfl (by decide +kernel)
theorem dcX1_eliminate_99 : decode cX1_eliminate 99 = .ok (.getfield 37, 3) := dw_at cX1_eliminate_k3 (p := 23) rfl (by decide +kernel)
theorem dcX1_eliminate_102 : decode cX1_eliminate 102 = .ok (.iload 4, 2) := dw_at cX1_eliminate_k4 (p := 0) rfl (by decide +kernel)
theorem dcX1_eliminate_104 : decode cX1_eliminate 104 = .ok (.iaload, 1) := dw_at cX1_eliminate_k4 (p := 2) rfl (by decide +kernel)
theorem dcX1_eliminate_105 : decode cX1_eliminate 105 = .ok (.if_icmp .ne 42, 3) := dw_at cX1_eliminate_k4 (p := 3) rfl (by decide +kernel)
theorem dcX1_eliminate_108 : decode cX1_eliminate 108 = .ok (.aload_n 0, 1) := dw_at cX1_eliminate_k4 (p := 6) rfl (by decide +kernel)
theorem dcX1_eliminate_109 : decode cX1_eliminate 109 = .ok (.getfield 55, 3) := dw_at cX1_eliminate_k4 (p := 7) rfl (by decide +kernel)
theorem dcX1_eliminate_112 : decode cX1_eliminate 112 = .ok (.aload_n 0, 1) := dw_at cX1_eliminate_k4 (p := 10) rfl (by decide +kernel)
theorem dcX1_eliminate_113 : decode cX1_eliminate 113 = .ok (.getfield 40, 3) := dw_at cX1_eliminate_k4 (p := 11) rfl (by decide +kernel)
theorem dcX1_eliminate_116 : decode cX1_eliminate 116 = .ok (.iload 4, 2) := dw_at cX1_eliminate_k4 (p := 14) rfl (by decide +kernel)
theorem dcX1_eliminate_118 : decode cX1_eliminate 118 = .ok (.iaload, 1) := dw_at cX1_eliminate_k4 (p := 16) rfl (by decide +kernel)
theorem dcX1_eliminate_119 : decode cX1_eliminate 119 = .ok (.aload_n 0, 1) := dw_at cX1_eliminate_k4 (p := 17) rfl (by decide +kernel)
theorem dcX1_eliminate_120 : decode cX1_eliminate 120 = .ok (.getfield 29, 3) := dw_at cX1_eliminate_k4 (p := 18) rfl (by decide +kernel)
theorem dcX1_eliminate_123 : decode cX1_eliminate 123 = .ok (.iload 5, 2) := dw_at cX1_eliminate_k4 (p := 21) rfl (by decide +kernel)
theorem dcX1_eliminate_125 : decode cX1_eliminate 125 = .ok (.iaload, 1) := dw_at cX1_eliminate_k4 (p := 23) rfl (by decide +kernel)
theorem dcX1_eliminate_126 : decode cX1_eliminate 126 = .ok (.iadd, 1) := dw_at cX1_eliminate_k5 (p := 0) rfl (by decide +kernel)
theorem dcX1_eliminate_127 : decode cX1_eliminate 127 = .ok (.iaload, 1) := dw_at cX1_eliminate_k5 (p := 1) rfl (by decide +kernel)
theorem dcX1_eliminate_128 : decode cX1_eliminate 128 = .ok (.ifCond .ne 19, 3) := dw_at cX1_eliminate_k5 (p := 2) rfl (by decide +kernel)
theorem dcX1_eliminate_131 : decode cX1_eliminate 131 = .ok (.aload_n 0, 1) := dw_at cX1_eliminate_k5 (p := 5) rfl (by decide +kernel)
theorem dcX1_eliminate_132 : decode cX1_eliminate 132 = .ok (.iload 4, 2) := dw_at cX1_eliminate_k5 (p := 6) rfl (by decide +kernel)
theorem dcX1_eliminate_134 : decode cX1_eliminate 134 = .ok (.iload 5, 2) := dw_at cX1_eliminate_k5 (p := 8) rfl (by decide +kernel)
theorem dcX1_eliminate_136 : decode cX1_eliminate 136 = .ok (.invokevirtual 169, 3) := dw_at cX1_eliminate_k5 (p := 10) rfl (by decide +kernel)
theorem dcX1_eliminate_139 : decode cX1_eliminate 139 = .ok (.iload_n 3, 1) := dw_at cX1_eliminate_k5 (p := 13) rfl (by decide +kernel)
theorem dcX1_eliminate_140 : decode cX1_eliminate 140 = .ok (.aload_n 0, 1) := dw_at cX1_eliminate_k5 (p := 14) rfl (by decide +kernel)
theorem dcX1_eliminate_141 : decode cX1_eliminate 141 = .ok (.iload_n 2, 1) := dw_at cX1_eliminate_k5 (p := 15) rfl (by decide +kernel)
theorem dcX1_eliminate_142 : decode cX1_eliminate 142 = .ok (.invokevirtual 173, 3) := dw_at cX1_eliminate_k5 (p := 16) rfl (by decide +kernel)
theorem dcX1_eliminate_145 : decode cX1_eliminate 145 = .ok (.iadd, 1) := dw_at cX1_eliminate_k5 (p := 19) rfl (by decide +kernel)
theorem dcX1_eliminate_146 : decode cX1_eliminate 146 = .ok (.istore_n 3, 1) := dw_at cX1_eliminate_k5 (p := 20) rfl (by decide +kernel)
theorem dcX1_eliminate_147 : decode cX1_eliminate 147 = .ok (.iinc 5 1, 3) := dw_at cX1_eliminate_k5 (p := 21) rfl (by decide +kernel)
theorem dcX1_eliminate_150 : decode cX1_eliminate 150 = .ok (.goto (-71), 3) := dw_at cX1_eliminate_k6 (p := 0) rfl (by decide +kernel)
theorem dcX1_eliminate_153 : decode cX1_eliminate 153 = .ok (.iinc 4 1, 3) := dw_at cX1_eliminate_k6 (p := 3) rfl (by decide +kernel)
theorem dcX1_eliminate_156 : decode cX1_eliminate 156 = .ok (.goto (-117), 3) := dw_at cX1_eliminate_k6 (p := 6) rfl (by decide +kernel)
theorem dcX1_eliminate_159 : decode cX1_eliminate 159 = .ok (.iload_n 3, 1) := dw_at cX1_eliminate_k6 (p := 9) rfl (by decide +kernel)
theorem dcX1_eliminate_160 : decode cX1_eliminate 160 = .ok (.ireturn, 1) := dw_at cX1_eliminate_k6 (p := 10) rfl (by decide +kernel)
def dm_X1_eliminate_0 (K : Nat) (go : Nat → Int32 → Int32 → Int32 → Int32 → Int32 → Nat → (Nat → Nat) → ow_MS → Option (Int32 × (Nat → Nat) × ow_MS)) (x1 : Int32) (x2 : Int32) (x3 : Int32) (x4 : Int32) (x5 : Int32) (r0 : Nat) (vl : Nat → Nat) (z : ow_MS) : Option (Int32 × (Nat → Nat) × ow_MS) :=
 crI (cX vl) z (r0 + 9) (x1 + 1) fun v1 => wrF z (r0 + 17) 0 fun z2 => cs0 (ce_J7_fill_fda19 vl K (r0 + 12) 0 v1 (-1) z2) fun z3 => cs0 (ce_J7_fill_fda19 vl K (r0 + 11) 0 v1 0 z3) fun z4 => go 1 x1 v1 0 0 0 r0 vl z4
def dm_X1_eliminate_1 (K : Nat) (go : Nat → Int32 → Int32 → Int32 → Int32 → Int32 → Nat → (Nat → Nat) → ow_MS → Option (Int32 × (Nat → Nat) × ow_MS)) (x1 : Int32) (x2 : Int32) (x3 : Int32) (x4 : Int32) (x5 : Int32) (r0 : Nat) (vl : Nat → Nat) (z : ow_MS) : Option (Int32 × (Nat → Nat) × ow_MS) :=
 rdF z ((r0 + 1000) + 8) fun v5 => (if ((1 : Int32) <<< ((v5 : Int32) &&& 31)) ≤ x4 then some (x3, vl, z)
 else (if (ow_bc x4) = x1 then crI (cX vl) z (r0 + 7) x4 fun v7 => (if v7 = (-1) then go 4 x1 x2 x3 x4 0 r0 vl z
 else go 2 x1 x2 x3 x4 0 r0 vl z)
 else go 4 x1 x2 x3 x4 0 r0 vl z))
def dm_X1_eliminate_2 (K : Nat) (go : Nat → Int32 → Int32 → Int32 → Int32 → Int32 → Nat → (Nat → Nat) → ow_MS → Option (Int32 × (Nat → Nat) × ow_MS)) (x1 : Int32) (x2 : Int32) (x3 : Int32) (x4 : Int32) (x5 : Int32) (r0 : Nat) (vl : Nat → Nat) (z : ow_MS) : Option (Int32 × (Nat → Nat) × ow_MS) :=
 crI (cX vl) z (r0 + 3) x4 fun v8 => (if ((1 : Int32) <<< ((v8 : Int32) &&& 31)) ≤ x5 then go 4 x1 x2 x3 x4 0 r0 vl z
 else crI (cX vl) z (r0 + 7) x4 fun v10 => (if (ow_bc x5) = v10 then crI (cX vl) z (r0 + 8) x4 fun v11 => crI (cX vl) z (r0 + 5) x5 fun v12 => crI (cX vl) z (r0 + 14) (v11 + v12) fun v13 => (if v13 = 0 then cs0 (ce_X1_writeImage vl K r0 x4 x5 z) fun z14 => dc1 (de_X1_reduce K r0 x2 vl z14) fun v16 vl z15 => chV vl (go 3 x1 x2 (x3 + v16) x4 x5 r0 vl z15)
 else go 3 x1 x2 x3 x4 x5 r0 vl z)
 else go 3 x1 x2 x3 x4 x5 r0 vl z))
def dm_X1_eliminate_3 (K : Nat) (go : Nat → Int32 → Int32 → Int32 → Int32 → Int32 → Nat → (Nat → Nat) → ow_MS → Option (Int32 × (Nat → Nat) × ow_MS)) (x1 : Int32) (x2 : Int32) (x3 : Int32) (x4 : Int32) (x5 : Int32) (r0 : Nat) (vl : Nat → Nat) (z : ow_MS) : Option (Int32 × (Nat → Nat) × ow_MS) :=
 go 2 x1 x2 x3 x4 (x5 + 1) r0 vl z
def dm_X1_eliminate_4 (K : Nat) (go : Nat → Int32 → Int32 → Int32 → Int32 → Int32 → Nat → (Nat → Nat) → ow_MS → Option (Int32 × (Nat → Nat) × ow_MS)) (x1 : Int32) (x2 : Int32) (x3 : Int32) (x4 : Int32) (x5 : Int32) (r0 : Nat) (vl : Nat → Nat) (z : ow_MS) : Option (Int32 × (Nat → Nat) × ow_MS) :=
 go 1 x1 x2 x3 (x4 + 1) 0 r0 vl z
def db_X1_eliminate (K : Nat) (go : Nat → Int32 → Int32 → Int32 → Int32 → Int32 → Nat → (Nat → Nat) → ow_MS → Option (Int32 × (Nat → Nat) × ow_MS)) (L : Nat) (x1 : Int32) (x2 : Int32) (x3 : Int32) (x4 : Int32) (x5 : Int32) (r0 : Nat) (vl : Nat → Nat) (z : ow_MS) : Option (Int32 × (Nat → Nat) × ow_MS) := match L with
  | 0 => chV vl (dm_X1_eliminate_0 K go x1 x2 x3 x4 x5 r0 vl z)
  | 1 => chV vl (dm_X1_eliminate_1 K go x1 x2 x3 x4 x5 r0 vl z)
  | 2 => chV vl (dm_X1_eliminate_2 K go x1 x2 x3 x4 x5 r0 vl z)
  | 3 => chV vl (dm_X1_eliminate_3 K go x1 x2 x3 x4 x5 r0 vl z)
  | 4 => chV vl (dm_X1_eliminate_4 K go x1 x2 x3 x4 x5 r0 vl z)
  | _ => none
def d_X1_eliminate (K : Nat) : Nat → Nat → Int32 → Int32 → Int32 → Int32 → Int32 → Nat → (Nat → Nat) → ow_MS → Option (Int32 × (Nat → Nat) × ow_MS)
  | 0 => fun _ _ _ _ _ _ _ _ _ => none
  | k + 1 => db_X1_eliminate K (d_X1_eliminate K k)
def de_X1_eliminate (K : Nat) (r0 : Nat) (x1 : Int32) (vl : Nat → Nat) (z : ow_MS) : Option (Int32 × (Nat → Nat) × ow_MS) := d_X1_eliminate K K 0 x1 0 0 0 0 r0 vl z
theorem dl_X1_eliminate {K : Nat} {r0 : Nat} {x1 : Int32} {vl vlE : Nat → Nat} {z z1 : ow_MS} {r : Int32} (h : de_X1_eliminate K r0 x1 vl z = some (r, vlE, z1)) : dPhi vl ≤ dPhi vlE := by
  cases K with
  | zero => exact cw_no h
  | succ k => exact (dd_ch (show chV vl (dm_X1_eliminate_0 (k + 1) (d_X1_eliminate (k + 1) k) x1 0 0 0 0 r0 vl z) = some (r, vlE, z1) from h)).1
abbrev wc_X1_eliminate : List Cond := .code yX1_eliminate cX1_eliminate 6 (some .int) :: wD
theorem cdd_X1_eliminate : yX1_eliminate.cls = RX1 ∧ yX1_eliminate.cls ≠ "java/lang/invoke/MethodHandle" ∧ yX1_eliminate.cls ≠ "java/lang/invoke/VarHandle" ∧ (parseMethodDescriptor yX1_eliminate.desc).map (fun d => d.parameters.length) = some 1 := by decide +kernel
set_option maxHeartbeats 4000000 in
set_option maxRecDepth 100000 in
theorem kd_X1_eliminate (l : Launch) (D : va_G) (q : Nat → ClassId) (vl0 u0 : Nat → Nat) (hU0 : tw_inj (cX vl0) u0) (K : Nat) (r0 : Nat) (x1 : Int32) (hr0 : cw_X1 r0) (z z1 : ow_MS) (vlE : Nat → Nat) (r : Int32) (sz : Nat) (hq : de_X1_eliminate K r0 x1 vl0 z = some (r, vlE, z1)) : Met l yX1_eliminate wc_X1_eliminate ({ frames := 4, cells := dca vl0 vlE, slots := dsl vl0 vlE, locals := 130 } : Room) (va_Pc [.ref (u0 r0), .int x1] (cw_preD D q vl0 u0 z sz)) (va_Qi (fun x (u1 : Nat → Nat) => x = r ∧ cd_U u0 u1 sz) (fun u1 t => va_P D vwCl (uw (cX vlE) q u1 z1) t.heap) (cd_A u0 sz)) (dca vl0 vlE) (dsl vl0 vlE) (cd_A u0 sz) := by
  refine Met.ofW (cc := cX1_eliminate) (maxL := 6) (ret := (some .int)) (by decide) rfl ?_
  intro p e s m args below meth c s₁ B hml hv
  obtain ⟨rfl, rfl, hP, hK⟩ := hv
  have hx := B.exec
  have hb := B.bytes
  have hr := B.returns
  have hts := atoms_spec (ws := wc_X1_eliminate) B.pre
  have hT : ∀ w ∈ wC, w.before ([.ref (u0 r0), .int x1] : List Value).toArray s = true := fun w h => hts w (List.mem_cons_of_mem _ (List.mem_cons_of_mem _ h))
  have hown : s.vm.findClass RX1 = some m.cls := findClass_of_methodNamed B.named
  have hlocks := B.notSynchronized
  have hA : ∀ q1 : Nat, s.heap.size ≤ q1 → cd_A u0 s.heap.size q1 := fun q1 h => Or.inr h
  have hU : uw_inj (cX vl0) u0 (cd_A u0 s.heap.size) := ⟨hU0, fun h hh => Or.inl ⟨h, hh, rfl⟩⟩
  have hM : uw_M D vwCl (cX vl0) q (cd_A u0 s.heap.size) s.heap u0 z s.heap [] := ⟨hP, va_S.rf⟩
  have hl := lv_entry ([.ref (u0 r0), .int x1]) (n := 6) (Nat.le_of_ble_eq_true rfl)
  rw [lg_entry_eq]
  generalize (lg_sl ([.ref (u0 r0), .int x1]) ++ List.replicate (6 - (lg_sl ([.ref (u0 r0), .int x1])).length) Slot.unset).toArray = ls at hl ⊢
  have hl : lv_has ls 6 [(0, .ref (u0 r0)), (1, .int x1)] := hl
  refine ow_named (fun QQ hQQ => ?_)
  generalize ([.ref (u0 r0), .int x1] : List Value).toArray = args at hts hT hQQ ⊢
  have key : ∀ k : Nat, (∀ (x1 : Int32) (x2 : Int32) (x3 : Int32) (x4 : Int32) (x5 : Int32) (r0 : Nat) (vl u : Nat → Nat) (z : ow_MS) (H : Heap) (locs : List Loc) (ls : Array Slot), cw_X1 r0 → uw_inj (cX vl) u (cd_A u0 s.heap.size) → (∀ h, h ∉ dynL → u h = u0 h) → dPhi vl0 ≤ dPhi vl → uw_M D vwCl (cX vl) q (cd_A u0 s.heap.size) s.heap u z H locs → lv_has ls 6 [(0, .ref (u r0)), (1, .int x1)] → d_X1_eliminate K k 0 x1 x2 x3 x4 x5 r0 vl z = some (r, vlE, z1) → W p l e ({ frames := 4, cells := dca vl0 vlE, slots := dsl vl0 vlE, locals := 130 } : Room) s m args below meth c H locs (dca vl0 vl) (dsl vl0 vl) QQ (F0 m 0 ls [])) ∧ (∀ (x1 : Int32) (x2 : Int32) (x3 : Int32) (x4 : Int32) (x5 : Int32) (r0 : Nat) (vl u : Nat → Nat) (z : ow_MS) (H : Heap) (locs : List Loc) (ls : Array Slot), cw_X1 r0 → uw_inj (cX vl) u (cd_A u0 s.heap.size) → (∀ h, h ∉ dynL → u h = u0 h) → dPhi vl0 ≤ dPhi vl → uw_M D vwCl (cX vl) q (cd_A u0 s.heap.size) s.heap u z H locs → lv_has ls 6 [(0, .ref (u r0)), (1, .int x1), (2, .int x2), (3, .int x3), (4, .int x4)] → d_X1_eliminate K k 1 x1 x2 x3 x4 x5 r0 vl z = some (r, vlE, z1) → W p l e ({ frames := 4, cells := dca vl0 vlE, slots := dsl vl0 vlE, locals := 130 } : Room) s m args below meth c H locs (dca vl0 vl) (dsl vl0 vl) QQ (F0 m 39 ls [])) ∧ (∀ (x1 : Int32) (x2 : Int32) (x3 : Int32) (x4 : Int32) (x5 : Int32) (r0 : Nat) (vl u : Nat → Nat) (z : ow_MS) (H : Heap) (locs : List Loc) (ls : Array Slot), cw_X1 r0 → uw_inj (cX vl) u (cd_A u0 s.heap.size) → (∀ h, h ∉ dynL → u h = u0 h) → dPhi vl0 ≤ dPhi vl → uw_M D vwCl (cX vl) q (cd_A u0 s.heap.size) s.heap u z H locs → lv_has ls 6 [(0, .ref (u r0)), (1, .int x1), (2, .int x2), (3, .int x3), (4, .int x4), (5, .int x5)] → d_X1_eliminate K k 2 x1 x2 x3 x4 x5 r0 vl z = some (r, vlE, z1) → W p l e ({ frames := 4, cells := dca vl0 vlE, slots := dsl vl0 vlE, locals := 130 } : Room) s m args below meth c H locs (dca vl0 vl) (dsl vl0 vl) QQ (F0 m 79 ls [])) ∧ (∀ (x1 : Int32) (x2 : Int32) (x3 : Int32) (x4 : Int32) (x5 : Int32) (r0 : Nat) (vl u : Nat → Nat) (z : ow_MS) (H : Heap) (locs : List Loc) (ls : Array Slot), cw_X1 r0 → uw_inj (cX vl) u (cd_A u0 s.heap.size) → (∀ h, h ∉ dynL → u h = u0 h) → dPhi vl0 ≤ dPhi vl → uw_M D vwCl (cX vl) q (cd_A u0 s.heap.size) s.heap u z H locs → lv_has ls 6 [(0, .ref (u r0)), (1, .int x1), (2, .int x2), (3, .int x3), (4, .int x4), (5, .int x5)] → d_X1_eliminate K k 3 x1 x2 x3 x4 x5 r0 vl z = some (r, vlE, z1) → W p l e ({ frames := 4, cells := dca vl0 vlE, slots := dsl vl0 vlE, locals := 130 } : Room) s m args below meth c H locs (dca vl0 vl) (dsl vl0 vl) QQ (F0 m 147 ls [])) ∧ (∀ (x1 : Int32) (x2 : Int32) (x3 : Int32) (x4 : Int32) (x5 : Int32) (r0 : Nat) (vl u : Nat → Nat) (z : ow_MS) (H : Heap) (locs : List Loc) (ls : Array Slot), cw_X1 r0 → uw_inj (cX vl) u (cd_A u0 s.heap.size) → (∀ h, h ∉ dynL → u h = u0 h) → dPhi vl0 ≤ dPhi vl → uw_M D vwCl (cX vl) q (cd_A u0 s.heap.size) s.heap u z H locs → lv_has ls 6 [(0, .ref (u r0)), (1, .int x1), (2, .int x2), (3, .int x3), (4, .int x4)] → d_X1_eliminate K k 4 x1 x2 x3 x4 x5 r0 vl z = some (r, vlE, z1) → W p l e ({ frames := 4, cells := dca vl0 vlE, slots := dsl vl0 vlE, locals := 130 } : Room) s m args below meth c H locs (dca vl0 vl) (dsl vl0 vl) QQ (F0 m 153 ls [])) := by
    intro k
    induction k with
    | zero => exact ⟨fun _ _ _ _ _ _ _ _ _ _ _ _ _ _ _ _ _ _ hq => cw_no hq, fun _ _ _ _ _ _ _ _ _ _ _ _ _ _ _ _ _ _ hq => cw_no hq, fun _ _ _ _ _ _ _ _ _ _ _ _ _ _ _ _ _ _ hq => cw_no hq, fun _ _ _ _ _ _ _ _ _ _ _ _ _ _ _ _ _ _ hq => cw_no hq, fun _ _ _ _ _ _ _ _ _ _ _ _ _ _ _ _ _ _ hq => cw_no hq⟩
    | succ k ih =>
      obtain ⟨ih_0, ih_1, ih_2, ih_3, ih_4⟩ := ih
      refine ⟨?_, ?_, ?_, ?_, ?_⟩
      · intro x1 x2 x3 x4 x5 r0 vl u z H locs ls hr0 hU hst h0 hM hl hq
        obtain ⟨hle, hq⟩ := dd_ch (show chV vl (dm_X1_eliminate_0 K (d_X1_eliminate K k) x1 x2 x3 x4 x5 r0 vl z) = some (r, vlE, z1) from hq)
        unfold dm_X1_eliminate_0 at hq
        refine lv_aload_n hx hb dcX1_eliminate_0 rfl (lv_at hl 0 rfl) ?_
        refine vgX1_43 hx hb hT hown hK hM hr0 dcX1_eliminate_1 ?_
        refine lv_iload_n hx hb dcX1_eliminate_4 rfl (lv_at hl 1 rfl) ?_
        refine lv_iconst (v := 1) hx hb dcX1_eliminate_5 (by decide) ?_
        refine lv_iadd hx hb dcX1_eliminate_6 ?_
        refine uw_iald cX_ok hx hb hK hM (cr_X1_8 hr0) hq dcX1_eliminate_7 (fun v1 hq => ?_)
        refine lv_istore_n (lv' := [(2, .int v1), (0, .ref (u r0)), (1, .int x1)]) hx hb dcX1_eliminate_8 rfl hl (by decide) rfl (fun ls hl => ?_)
        refine lv_iconst (v := 0) hx hb dcX1_eliminate_9 (by decide) ?_
        refine lv_istore_n (lv' := [(3, .int 0), (2, .int v1), (0, .ref (u r0)), (1, .int x1)]) hx hb dcX1_eliminate_10 rfl hl (by decide) rfl (fun ls hl => ?_)
        refine lv_aload_n hx hb dcX1_eliminate_11 rfl (lv_at hl 2 rfl) ?_
        refine lv_iconst (v := 0) hx hb dcX1_eliminate_12 (by decide) ?_
        refine vpX1_163 hx hb hT hown hK hM hU hr0 hq dcX1_eliminate_13 (fun z2 H locs hM hq => ?_)
        refine lv_aload_n hx hb dcX1_eliminate_16 rfl (lv_at hl 2 rfl) ?_
        refine vgX1_49 hx hb hT hown hK hM hr0 dcX1_eliminate_17 ?_
        refine lv_iconst (v := 0) hx hb dcX1_eliminate_20 (by decide) ?_
        refine lv_iload_n hx hb dcX1_eliminate_21 rfl (lv_at hl 1 rfl) ?_
        refine lv_iconst (v := (-1)) hx hb dcX1_eliminate_22 (by decide) ?_
        obtain ⟨z3, hcq, hq⟩ := tw_cl0 hq
        refine uw_calv hU hM (va_runS (As := [.ref (u (r0 + 12)), .int 0, .int v1, .int (-1)]) (rest := []) ⟨hx, hb, hml, hown, hts⟩ (kc_J7_fill_fda19 l D q vl u hU.1 K (r0 + 12) 0 v1 (-1) (cr_X1_11 hr0) z2 z3 hcq) (va_cwS 4 hts (tw_gS2 wD_good (fun _ h => List.mem_cons_of_mem _ h) (List.mem_cons_of_mem _ xq_221) (List.mem_cons_of_mem _ xq_62) (List.mem_cons_of_mem _ xq_9) (List.mem_cons_of_mem _ xq_63)) rfl rfl rfl cdd_J7_fill_fda19 ⟨(Nat.le_of_ble_eq_true rfl), (Nat.le_of_ble_eq_true rfl)⟩) (cw_preS hK hM) rfl rfl hl.1 rfl (lv_room (Nat.le_of_ble_eq_true rfl)) dcX1_eliminate_23 ⟨dca_le hle, dsl_le hle⟩) (fun H locs hM => ?_)
        refine lv_aload_n hx hb dcX1_eliminate_26 rfl (lv_at hl 2 rfl) ?_
        refine vgX1_46 hx hb hT hown hK hM hr0 dcX1_eliminate_27 ?_
        refine lv_iconst (v := 0) hx hb dcX1_eliminate_30 (by decide) ?_
        refine lv_iload_n hx hb dcX1_eliminate_31 rfl (lv_at hl 1 rfl) ?_
        refine lv_iconst (v := 0) hx hb dcX1_eliminate_32 (by decide) ?_
        obtain ⟨z4, hcq, hq⟩ := tw_cl0 hq
        refine uw_calv hU hM (va_runS (As := [.ref (u (r0 + 11)), .int 0, .int v1, .int 0]) (rest := []) ⟨hx, hb, hml, hown, hts⟩ (kc_J7_fill_fda19 l D q vl u hU.1 K (r0 + 11) 0 v1 0 (cr_X1_10 hr0) z3 z4 hcq) (va_cwS 4 hts (tw_gS2 wD_good (fun _ h => List.mem_cons_of_mem _ h) (List.mem_cons_of_mem _ xq_221) (List.mem_cons_of_mem _ xq_62) (List.mem_cons_of_mem _ xq_9) (List.mem_cons_of_mem _ xq_63)) rfl rfl rfl cdd_J7_fill_fda19 ⟨(Nat.le_of_ble_eq_true rfl), (Nat.le_of_ble_eq_true rfl)⟩) (cw_preS hK hM) rfl rfl hl.1 rfl (lv_room (Nat.le_of_ble_eq_true rfl)) dcX1_eliminate_33 ⟨dca_le hle, dsl_le hle⟩) (fun H locs hM => ?_)
        refine lv_iconst (v := 0) hx hb dcX1_eliminate_36 (by decide) ?_
        refine lv_istore (lv' := [(4, .int 0), (3, .int 0), (2, .int v1), (0, .ref (u r0)), (1, .int x1)]) hx hb dcX1_eliminate_37 hl (by decide) rfl (fun ls hl => ?_)
        exact ih_1 x1 v1 0 0 0 r0 vl u z4 H locs ls hr0 hU hst h0 hM (lv_sub hl [3, 4, 2, 1, 0] rfl) hq
      · intro x1 x2 x3 x4 x5 r0 vl u z H locs ls hr0 hU hst h0 hM hl hq
        obtain ⟨hle, hq⟩ := dd_ch (show chV vl (dm_X1_eliminate_1 K (d_X1_eliminate K k) x1 x2 x3 x4 x5 r0 vl z) = some (r, vlE, z1) from hq)
        unfold dm_X1_eliminate_1 at hq
        refine lv_iload hx hb dcX1_eliminate_39 (lv_at hl 4 rfl) ?_
        refine lv_iconst (v := 1) hx hb dcX1_eliminate_41 (by decide) ?_
        refine lv_aload_n hx hb dcX1_eliminate_42 rfl (lv_at hl 0 rfl) ?_
        refine vgX1_12 hx hb hT hown hK hM hr0 dcX1_eliminate_43 ?_
        refine vgX1_90 hx hb hT hown hK hM (cs_X1_0 hr0) hq dcX1_eliminate_46 (fun v5 hq => ?_)
        refine lv_ishl hx hb dcX1_eliminate_49 ?_
        refine lv_icmp_ge (tgt := 159) hx hb dcX1_eliminate_50 (by decide) (fun hc => ?_) (fun hc => ?_)
        · have hq := tw_it hq hc
          refine lv_iload_n hx hb dcX1_eliminate_159 rfl (lv_at hl 3 rfl) ?_
          exact dd_iret hx hb hr hlocks hU hst hM hq hQQ dcX1_eliminate_160
        · have hq := tw_if hq hc
          refine lv_iload hx hb dcX1_eliminate_53 (lv_at hl 4 rfl) ?_
          refine cw_pure hM (va_runS (As := [.int x4]) (rest := []) ⟨hx, hb, hml, hown, hts⟩ (k_J6_bitCount_0f7a4 l x4) (va_cwS 1 hts (dw_gbc xq_208) rfl rfl rfl (by decide +kernel) ⟨(Nat.le_of_ble_eq_true rfl), (Nat.le_of_ble_eq_true rfl)⟩) ⟨fun a U g mk q => q, fun U hU hW => ⟨rfl, trivial⟩⟩ rfl rfl hl.1 rfl (lv_room (Nat.le_of_ble_eq_true rfl)) dcX1_eliminate_55 ⟨dca_le hle, dsl_le hle⟩) (fun H locs hM => ?_)
          refine lv_iload_n hx hb dcX1_eliminate_58 rfl (lv_at hl 1 rfl) ?_
          refine lv_icmp_ne (tgt := 153) hx hb dcX1_eliminate_59 (by decide) (fun hc => ?_) (fun hc => ?_)
          · have hq := tw_if hq hc
            exact ih_4 x1 x2 x3 x4 0 r0 vl u z H locs ls hr0 hU hst h0 hM (lv_sub hl [0, 1, 2, 3, 4] rfl) hq
          · have hq := tw_it hq hc
            refine lv_aload_n hx hb dcX1_eliminate_62 rfl (lv_at hl 0 rfl) ?_
            refine vgX1_37 hx hb hT hown hK hM hr0 dcX1_eliminate_63 ?_
            refine lv_iload hx hb dcX1_eliminate_66 (lv_at hl 4 rfl) ?_
            refine uw_iald cX_ok hx hb hK hM (cr_X1_6 hr0) hq dcX1_eliminate_68 (fun v7 hq => ?_)
            refine lv_iconst (v := (-1)) hx hb dcX1_eliminate_69 (by decide) ?_
            refine lv_icmp_ne (tgt := 76) hx hb dcX1_eliminate_70 (by decide) (fun hc => ?_) (fun hc => ?_)
            · have hq := tw_if hq hc
              refine lv_iconst (v := 0) hx hb dcX1_eliminate_76 (by decide) ?_
              refine lv_istore (lv' := [(5, .int 0), (0, .ref (u r0)), (1, .int x1), (2, .int x2), (3, .int x3), (4, .int x4)]) hx hb dcX1_eliminate_77 hl (by decide) rfl (fun ls hl => ?_)
              exact ih_2 x1 x2 x3 x4 0 r0 vl u z H locs ls hr0 hU hst h0 hM (lv_sub hl [1, 2, 3, 4, 5, 0] rfl) hq
            · have hq := tw_it hq hc
              refine lv_goto (tgt := 153) hx hb dcX1_eliminate_73 (by decide) ?_
              exact ih_4 x1 x2 x3 x4 0 r0 vl u z H locs ls hr0 hU hst h0 hM (lv_sub hl [0, 1, 2, 3, 4] rfl) hq
      · intro x1 x2 x3 x4 x5 r0 vl u z H locs ls hr0 hU hst h0 hM hl hq
        obtain ⟨hle, hq⟩ := dd_ch (show chV vl (dm_X1_eliminate_2 K (d_X1_eliminate K k) x1 x2 x3 x4 x5 r0 vl z) = some (r, vlE, z1) from hq)
        unfold dm_X1_eliminate_2 at hq
        refine lv_iload hx hb dcX1_eliminate_79 (lv_at hl 5 rfl) ?_
        refine lv_iconst (v := 1) hx hb dcX1_eliminate_81 (by decide) ?_
        refine lv_aload_n hx hb dcX1_eliminate_82 rfl (lv_at hl 0 rfl) ?_
        refine vgX1_22 hx hb hT hown hK hM hr0 dcX1_eliminate_83 ?_
        refine lv_iload hx hb dcX1_eliminate_86 (lv_at hl 4 rfl) ?_
        refine uw_iald cX_ok hx hb hK hM (cr_X1_2 hr0) hq dcX1_eliminate_88 (fun v8 hq => ?_)
        refine lv_ishl hx hb dcX1_eliminate_89 ?_
        refine lv_icmp_ge (tgt := 153) hx hb dcX1_eliminate_90 (by decide) (fun hc => ?_) (fun hc => ?_)
        · have hq := tw_it hq hc
          exact ih_4 x1 x2 x3 x4 0 r0 vl u z H locs ls hr0 hU hst h0 hM (lv_sub hl [0, 1, 2, 3, 4] rfl) hq
        · have hq := tw_if hq hc
          refine lv_iload hx hb dcX1_eliminate_93 (lv_at hl 5 rfl) ?_
          refine cw_pure hM (va_runS (As := [.int x5]) (rest := []) ⟨hx, hb, hml, hown, hts⟩ (k_J6_bitCount_0f7a4 l x5) (va_cwS 1 hts (dw_gbc xq_208) rfl rfl rfl (by decide +kernel) ⟨(Nat.le_of_ble_eq_true rfl), (Nat.le_of_ble_eq_true rfl)⟩) ⟨fun a U g mk q => q, fun U hU hW => ⟨rfl, trivial⟩⟩ rfl rfl hl.1 rfl (lv_room (Nat.le_of_ble_eq_true rfl)) dcX1_eliminate_95 ⟨dca_le hle, dsl_le hle⟩) (fun H locs hM => ?_)
          refine lv_aload_n hx hb dcX1_eliminate_98 rfl (lv_at hl 0 rfl) ?_
          refine vgX1_37 hx hb hT hown hK hM hr0 dcX1_eliminate_99 ?_
          refine lv_iload hx hb dcX1_eliminate_102 (lv_at hl 4 rfl) ?_
          refine uw_iald cX_ok hx hb hK hM (cr_X1_6 hr0) hq dcX1_eliminate_104 (fun v10 hq => ?_)
          refine lv_icmp_ne (tgt := 147) hx hb dcX1_eliminate_105 (by decide) (fun hc => ?_) (fun hc => ?_)
          · have hq := tw_if hq hc
            exact ih_3 x1 x2 x3 x4 x5 r0 vl u z H locs ls hr0 hU hst h0 hM (lv_sub hl [0, 1, 2, 3, 4, 5] rfl) hq
          · have hq := tw_it hq hc
            refine lv_aload_n hx hb dcX1_eliminate_108 rfl (lv_at hl 0 rfl) ?_
            refine vgX1_55 hx hb hT hown hK hM hr0 dcX1_eliminate_109 ?_
            refine lv_aload_n hx hb dcX1_eliminate_112 rfl (lv_at hl 0 rfl) ?_
            refine vgX1_40 hx hb hT hown hK hM hr0 dcX1_eliminate_113 ?_
            refine lv_iload hx hb dcX1_eliminate_116 (lv_at hl 4 rfl) ?_
            refine uw_iald cX_ok hx hb hK hM (cr_X1_7 hr0) hq dcX1_eliminate_118 (fun v11 hq => ?_)
            refine lv_aload_n hx hb dcX1_eliminate_119 rfl (lv_at hl 0 rfl) ?_
            refine vgX1_29 hx hb hT hown hK hM hr0 dcX1_eliminate_120 ?_
            refine lv_iload hx hb dcX1_eliminate_123 (lv_at hl 5 rfl) ?_
            refine uw_iald cX_ok hx hb hK hM (cr_X1_4 hr0) hq dcX1_eliminate_125 (fun v12 hq => ?_)
            refine lv_iadd hx hb dcX1_eliminate_126 ?_
            refine uw_iald cX_ok hx hb hK hM (cr_X1_13 hr0) hq dcX1_eliminate_127 (fun v13 hq => ?_)
            refine lv_if_ne (tgt := 147) hx hb dcX1_eliminate_128 (by decide) (fun hc => ?_) (fun hc => ?_)
            · have hq := tw_if hq hc
              exact ih_3 x1 x2 x3 x4 x5 r0 vl u z H locs ls hr0 hU hst h0 hM (lv_sub hl [0, 1, 2, 3, 4, 5] rfl) hq
            · have hq := tw_it hq hc
              refine lv_aload_n hx hb dcX1_eliminate_131 rfl (lv_at hl 0 rfl) ?_
              refine lv_iload hx hb dcX1_eliminate_132 (lv_at hl 4 rfl) ?_
              refine lv_iload hx hb dcX1_eliminate_134 (lv_at hl 5 rfl) ?_
              obtain ⟨z14, hcq, hq⟩ := tw_cl0 hq
              refine uw_calv hU hM (va_runV (As := [.int x4, .int x5]) (rest := []) ⟨hx, hb, hml, hown, hts⟩ (kc_X1_writeImage l D q vl u hU.1 K r0 x4 x5 hr0 z z14 hcq) (cwV 2 hts (tw_gV2 wD_good (fun _ h => List.mem_cons_of_mem _ h) (List.mem_cons_of_mem _ xq_222) (List.mem_cons_of_mem _ xq_223) (List.mem_cons_of_mem _ xq_224) (List.mem_cons_of_mem _ xq_138) (List.mem_cons_of_mem _ xq_225)) rfl rfl rfl cdd_X1_writeImage ⟨(Nat.le_of_ble_eq_true rfl), (Nat.le_of_ble_eq_true rfl)⟩) (cw_preV hK hM (co_X1 hr0) rfl) rfl rfl hl.1 rfl (lv_room (Nat.le_of_ble_eq_true rfl)) dcX1_eliminate_136 ⟨dca_le hle, dsl_le hle⟩) (fun H locs hM => ?_)
              refine lv_iload_n hx hb dcX1_eliminate_139 rfl (lv_at hl 3 rfl) ?_
              refine lv_aload_n hx hb dcX1_eliminate_140 rfl (lv_at hl 0 rfl) ?_
              refine lv_iload_n hx hb dcX1_eliminate_141 rfl (lv_at hl 2 rfl) ?_
              obtain ⟨v16, vm17, z15, hcq, hq⟩ := dd_dc1 hq
              obtain ⟨hle1, hq⟩ := dd_ch hq
              have hcl := dl_X1_reduce hcq
              refine dd_cali hA hU hM h0 hcl (va_runV (As := [.int x2]) (rest := [.int x3]) ⟨hx, hb, hml, hown, hts⟩ (kd_X1_reduce l D q vl u hU.1 K r0 x2 hr0 z14 z15 vm17 v16 H.size hcq) (cwV 1 hts (tw_gV2 wD_good (fun _ h => h) (List.mem_cons_of_mem _ xq_238) (List.mem_cons_of_mem _ xq_239) (List.mem_cons_of_mem _ xq_240) (List.mem_cons_of_mem _ xq_138) (List.mem_cons_of_mem _ xq_241)) rfl rfl rfl cdd_X1_reduce ⟨(Nat.le_of_ble_eq_true rfl), (Nat.le_of_ble_eq_true rfl)⟩) (dd_preV hK hM (co_X1 hr0) rfl) rfl rfl hl.1 rfl (lv_room (Nat.le_of_ble_eq_true rfl)) dcX1_eliminate_142 ⟨Nat.le_trans (dca_add h0 hcl) (dca_le hle1), Nat.le_trans (dsl_add h0 hcl) (dsl_le hle1)⟩) (fun u H locs hU hs1 hM => ?_)
              have h0 := Nat.le_trans h0 hcl
              have hle := hle1
              clear hle1
              have hl : lv_has ls 6 [(0, .ref (u r0)), (1, .int x1), (2, .int x2), (3, .int x3), (4, .int x4), (5, .int x5)] := by rw [hs1 r0 (ns_X1 hr0)]; exact hl
              have hst : ∀ h, h ∉ dynL → u h = u0 h := fun h hh => (hs1 h hh).trans (hst h hh)
              obtain ⟨vl, hvl⟩ : ∃ v, v = vm17 := ⟨_, rfl⟩
              rw [← hvl] at hU h0 hle hM hq ⊢
              refine lv_iadd hx hb dcX1_eliminate_145 ?_
              refine lv_istore_n (lv' := [(3, .int (x3 + v16)), (0, .ref (u r0)), (1, .int x1), (2, .int x2), (4, .int x4), (5, .int x5)]) hx hb dcX1_eliminate_146 rfl hl (by decide) rfl (fun ls hl => ?_)
              exact ih_3 x1 x2 (x3 + v16) x4 x5 r0 vl u z15 H locs ls hr0 hU hst h0 hM (lv_sub hl [1, 2, 3, 0, 4, 5] rfl) hq
      · intro x1 x2 x3 x4 x5 r0 vl u z H locs ls hr0 hU hst h0 hM hl hq
        obtain ⟨hle, hq⟩ := dd_ch (show chV vl (dm_X1_eliminate_3 K (d_X1_eliminate K k) x1 x2 x3 x4 x5 r0 vl z) = some (r, vlE, z1) from hq)
        unfold dm_X1_eliminate_3 at hq
        refine lv_iinc (v := (x5 + 1)) (lv' := [(5, .int (x5 + 1)), (0, .ref (u r0)), (1, .int x1), (2, .int x2), (3, .int x3), (4, .int x4)]) hx hb dcX1_eliminate_147 hl (k := 5) rfl rfl (by decide) rfl (fun ls hl => ?_)
        refine lv_goto (tgt := 79) hx hb dcX1_eliminate_150 (by decide) ?_
        exact ih_2 x1 x2 x3 x4 (x5 + 1) r0 vl u z H locs ls hr0 hU hst h0 hM (lv_sub hl [1, 2, 3, 4, 5, 0] rfl) hq
      · intro x1 x2 x3 x4 x5 r0 vl u z H locs ls hr0 hU hst h0 hM hl hq
        obtain ⟨hle, hq⟩ := dd_ch (show chV vl (dm_X1_eliminate_4 K (d_X1_eliminate K k) x1 x2 x3 x4 x5 r0 vl z) = some (r, vlE, z1) from hq)
        unfold dm_X1_eliminate_4 at hq
        refine lv_iinc (v := (x4 + 1)) (lv' := [(4, .int (x4 + 1)), (0, .ref (u r0)), (1, .int x1), (2, .int x2), (3, .int x3)]) hx hb dcX1_eliminate_153 hl (k := 4) rfl rfl (by decide) rfl (fun ls hl => ?_)
        refine lv_goto (tgt := 39) hx hb dcX1_eliminate_156 (by decide) ?_
        exact ih_1 x1 x2 x3 (x4 + 1) 0 r0 vl u z H locs ls hr0 hU hst h0 hM (lv_sub hl [1, 2, 3, 4, 0] rfl) hq
  refine W.widen (k := dca vl0 vl0) (n := dsl vl0 vl0) (Nat.zero_le _) (Nat.zero_le _) ?_
  exact (key K).1 x1 0 0 0 0 r0 vl0 u0 z s.heap [] ls hr0 hU (fun _ _ => rfl) (Nat.le_refl _) hM (lv_sub hl [0, 1] rfl) hq
theorem dcX1_makeRoom_0 : decode cX1_makeRoom 0 = .ok (.iload_n 1, 1) := dw_at cX1_makeRoom_k0 (p := 0) rfl (by decide +kernel)
theorem dcX1_makeRoom_1 : decode cX1_makeRoom 1 = .ok (.aload_n 0, 1) := dw_at cX1_makeRoom_k0 (p := 1) rfl (by decide +kernel)
theorem dcX1_makeRoom_2 : decode cX1_makeRoom 2 = .ok (.getfield 46, 3) := dw_at cX1_makeRoom_k0 (p := 2) rfl (by decide +kernel)
theorem dcX1_makeRoom_5 : decode cX1_makeRoom 5 = .ok (.arraylength, 1) := dw_at cX1_makeRoom_k0 (p := 5) rfl (by decide +kernel)
theorem dcX1_makeRoom_6 : decode cX1_makeRoom 6 = .ok (.if_icmp .le 39, 3) := dw_at cX1_makeRoom_k0 (p := 6) rfl (by decide +kernel)
theorem dcX1_makeRoom_9 : decode cX1_makeRoom 9 = .ok (.aload_n 0, 1) := dw_at cX1_makeRoom_k0 (p := 9) rfl (by decide +kernel)
theorem dcX1_makeRoom_10 : decode cX1_makeRoom 10 = .ok (.iconst 2, 1) := dw_at cX1_makeRoom_k0 (p := 10) rfl (by decide +kernel)
theorem dcX1_makeRoom_11 : decode cX1_makeRoom 11 = .ok (.iload_n 1, 1) := dw_at cX1_makeRoom_k0 (p := 11) rfl (by decide +kernel)
theorem dcX1_makeRoom_12 : decode cX1_makeRoom 12 = .ok (.imul, 1) := dw_at cX1_makeRoom_k0 (p := 12) rfl (by decide +kernel)
theorem dcX1_makeRoom_13 : decode cX1_makeRoom 13 = .ok (.newarray .int, 2) := dw_at cX1_makeRoom_k0 (p := 13) rfl (by decide +kernel)
theorem dcX1_makeRoom_15 : decode cX1_makeRoom 15 = .ok (.putfield 46, 3) := dw_at cX1_makeRoom_k0 (p := 15) rfl (by decide +kernel)
theorem dcX1_makeRoom_18 : decode cX1_makeRoom 18 = .ok (.aload_n 0, 1) := dw_at cX1_makeRoom_k0 (p := 18) rfl (by decide +kernel)
theorem dcX1_makeRoom_19 : decode cX1_makeRoom 19 = .ok (.iconst 2, 1) := dw_at cX1_makeRoom_k0 (p := 19) rfl (by decide +kernel)
theorem dcX1_makeRoom_20 : decode cX1_makeRoom 20 = .ok (.iload_n 1, 1) := dw_at cX1_makeRoom_k0 (p := 20) rfl (by decide +kernel)
theorem dcX1_makeRoom_21 : decode cX1_makeRoom 21 = .ok (.imul, 1) := dw_at cX1_makeRoom_k0 (p := 21) rfl (by decide +kernel)
theorem dcX1_makeRoom_22 : decode cX1_makeRoom 22 = .ok (.newarray .int, 2) := dw_at cX1_makeRoom_k0 (p := 22) rfl (by decide +kernel)
theorem dcX1_makeRoom_24 : decode cX1_makeRoom 24 = .ok (.putfield 49, 3) := dw_at cX1_makeRoom_k1 (p := 0) rfl (by decide +kernel)
theorem dcX1_makeRoom_27 : decode cX1_makeRoom 27 = .ok (.aload_n 0, 1) := dw_at cX1_makeRoom_k1 (p := 3) rfl (by decide +kernel)
theorem dcX1_makeRoom_28 : decode cX1_makeRoom 28 = .ok (.iconst 2, 1) := dw_at cX1_makeRoom_k1 (p := 4) rfl (by decide +kernel)
theorem dcX1_makeRoom_29 : decode cX1_makeRoom 29 = .ok (.iload_n 1, 1) := dw_at cX1_makeRoom_k1 (p := 5) rfl (by decide +kernel)
theorem dcX1_makeRoom_30 : decode cX1_makeRoom 30 = .ok (.imul, 1) := dw_at cX1_makeRoom_k1 (p := 6) rfl (by decide +kernel)
theorem dcX1_makeRoom_31 : decode cX1_makeRoom 31 = .ok (.newarray .int, 2) := dw_at cX1_makeRoom_k1 (p := 7) rfl (by decide +kernel)
theorem dcX1_makeRoom_33 : decode cX1_makeRoom 33 = .ok (.putfield 52, 3) := dw_at cX1_makeRoom_k1 (p := 9) rfl (by decide +kernel)
theorem dcX1_makeRoom_36 : decode cX1_makeRoom 36 = .ok (.aload_n 0, 1) := dw_at cX1_makeRoom_k1 (p := 12) rfl (by decide +kernel)
theorem dcX1_makeRoom_37 : decode cX1_makeRoom 37 = .ok (.iconst 2, 1) := dw_at cX1_makeRoom_k1 (p := 13) rfl (by decide +kernel)
theorem dcX1_makeRoom_38 : decode cX1_makeRoom 38 = .ok (.iload_n 1, 1) := dw_at cX1_makeRoom_k1 (p := 14) rfl (by decide +kernel)
theorem dcX1_makeRoom_39 : decode cX1_makeRoom 39 = .ok (.imul, 1) := dw_at cX1_makeRoom_k1 (p := 15) rfl (by decide +kernel)
theorem dcX1_makeRoom_40 : decode cX1_makeRoom 40 = .ok (.newarray .int, 2) := dw_at cX1_makeRoom_k1 (p := 16) rfl (by decide +kernel)
theorem dcX1_makeRoom_42 : decode cX1_makeRoom 42 = .ok (.putfield 55, 3) := dw_at cX1_makeRoom_k1 (p := 18) rfl (by decide +kernel)
theorem dcX1_makeRoom_45 : decode cX1_makeRoom 45 = .ok (.return_, 1) := dw_at cX1_makeRoom_k1 (p := 21) rfl (by decide +kernel)
def dm_X1_makeRoom_0 (K : Nat) (go : Nat → Int32 → Nat → (Nat → Nat) → ow_MS → Option (Unit × (Nat → Nat) × ow_MS)) (x1 : Int32) (r0 : Nat) (vl : Nat → Nat) (z : ow_MS) : Option (Unit × (Nat → Nat) × ow_MS) :=
 (if x1 ≤ (Int32.ofNat (uw_len (cX vl) z (r0 + 11))) then some ((), vl, z)
 else nwR vl z (r0 + 1 + 10) (2 * x1) fun vl z1 => chV vl (nwR vl z1 (r0 + 1 + 11) (2 * x1) fun vl z2 => chV vl (nwR vl z2 (r0 + 1 + 12) (2 * x1) fun vl z3 => chV vl (nwR vl z3 (r0 + 1 + 13) (2 * x1) fun vl z4 => chV vl (some ((), vl, z4))))))
def db_X1_makeRoom (K : Nat) (go : Nat → Int32 → Nat → (Nat → Nat) → ow_MS → Option (Unit × (Nat → Nat) × ow_MS)) (L : Nat) (x1 : Int32) (r0 : Nat) (vl : Nat → Nat) (z : ow_MS) : Option (Unit × (Nat → Nat) × ow_MS) := match L with
  | 0 => chV vl (dm_X1_makeRoom_0 K go x1 r0 vl z)
  | _ => none
def d_X1_makeRoom (K : Nat) : Nat → Nat → Int32 → Nat → (Nat → Nat) → ow_MS → Option (Unit × (Nat → Nat) × ow_MS)
  | 0 => fun _ _ _ _ _ => none
  | k + 1 => db_X1_makeRoom K (d_X1_makeRoom K k)
def de_X1_makeRoom (K : Nat) (r0 : Nat) (x1 : Int32) (vl : Nat → Nat) (z : ow_MS) : Option (Unit × (Nat → Nat) × ow_MS) := d_X1_makeRoom K K 0 x1 r0 vl z
theorem dl_X1_makeRoom {K : Nat} {r0 : Nat} {x1 : Int32} {vl vlE : Nat → Nat} {z z1 : ow_MS} {r : Unit} (h : de_X1_makeRoom K r0 x1 vl z = some (r, vlE, z1)) : dPhi vl ≤ dPhi vlE := by
  cases K with
  | zero => exact cw_no h
  | succ k => exact (dd_ch (show chV vl (dm_X1_makeRoom_0 (k + 1) (d_X1_makeRoom (k + 1) k) x1 r0 vl z) = some (r, vlE, z1) from h)).1
abbrev wc_X1_makeRoom : List Cond := .code yX1_makeRoom cX1_makeRoom 2 none :: wD
theorem cdd_X1_makeRoom : yX1_makeRoom.cls = RX1 ∧ yX1_makeRoom.cls ≠ "java/lang/invoke/MethodHandle" ∧ yX1_makeRoom.cls ≠ "java/lang/invoke/VarHandle" ∧ (parseMethodDescriptor yX1_makeRoom.desc).map (fun d => d.parameters.length) = some 1 := by decide +kernel
set_option maxHeartbeats 4000000 in
set_option maxRecDepth 100000 in
theorem kd_X1_makeRoom (l : Launch) (D : va_G) (q : Nat → ClassId) (vl0 u0 : Nat → Nat) (hU0 : tw_inj (cX vl0) u0) (K : Nat) (r0 : Nat) (x1 : Int32) (hr0 : cw_X1 r0) (z z1 : ow_MS) (vlE : Nat → Nat) (r : Unit) (sz : Nat) (hq : de_X1_makeRoom K r0 x1 vl0 z = some (r, vlE, z1)) : Met l yX1_makeRoom wc_X1_makeRoom ({ frames := 0, cells := dca vl0 vlE, slots := dsl vl0 vlE, locals := 0 } : Room) (va_Pc [.ref (u0 r0), .int x1] (cw_preD D q vl0 u0 z sz)) (va_Qv (fun (u1 : Nat → Nat) => cd_U u0 u1 sz) (fun u1 t => va_P D vwCl (uw (cX vlE) q u1 z1) t.heap) (cd_A u0 sz)) (dca vl0 vlE) (dsl vl0 vlE) (cd_A u0 sz) := by
  refine Met.ofW (cc := cX1_makeRoom) (maxL := 2) (ret := none) (by decide) rfl ?_
  intro p e s m args below meth c s₁ B hml hv
  obtain ⟨rfl, rfl, hP, hK⟩ := hv
  have hx := B.exec
  have hb := B.bytes
  have hr := B.returns
  have hts := atoms_spec (ws := wc_X1_makeRoom) B.pre
  have hT : ∀ w ∈ wC, w.before ([.ref (u0 r0), .int x1] : List Value).toArray s = true := fun w h => hts w (List.mem_cons_of_mem _ (List.mem_cons_of_mem _ h))
  have hown : s.vm.findClass RX1 = some m.cls := findClass_of_methodNamed B.named
  have hlocks := B.notSynchronized
  have hA : ∀ q1 : Nat, s.heap.size ≤ q1 → cd_A u0 s.heap.size q1 := fun q1 h => Or.inr h
  have hU : uw_inj (cX vl0) u0 (cd_A u0 s.heap.size) := ⟨hU0, fun h hh => Or.inl ⟨h, hh, rfl⟩⟩
  have hM : uw_M D vwCl (cX vl0) q (cd_A u0 s.heap.size) s.heap u0 z s.heap [] := ⟨hP, va_S.rf⟩
  have hl := lv_entry ([.ref (u0 r0), .int x1]) (n := 2) (Nat.le_of_ble_eq_true rfl)
  rw [lg_entry_eq]
  generalize (lg_sl ([.ref (u0 r0), .int x1]) ++ List.replicate (2 - (lg_sl ([.ref (u0 r0), .int x1])).length) Slot.unset).toArray = ls at hl ⊢
  have hl : lv_has ls 2 [(0, .ref (u0 r0)), (1, .int x1)] := hl
  refine ow_named (fun QQ hQQ => ?_)
  generalize ([.ref (u0 r0), .int x1] : List Value).toArray = args at hts hT hQQ ⊢
  have key : ∀ k : Nat, (∀ (x1 : Int32) (r0 : Nat) (vl u : Nat → Nat) (z : ow_MS) (H : Heap) (locs : List Loc) (ls : Array Slot), cw_X1 r0 → uw_inj (cX vl) u (cd_A u0 s.heap.size) → (∀ h, h ∉ dynL → u h = u0 h) → dPhi vl0 ≤ dPhi vl → uw_M D vwCl (cX vl) q (cd_A u0 s.heap.size) s.heap u z H locs → lv_has ls 2 [(0, .ref (u r0)), (1, .int x1)] → d_X1_makeRoom K k 0 x1 r0 vl z = some (r, vlE, z1) → W p l e ({ frames := 0, cells := dca vl0 vlE, slots := dsl vl0 vlE, locals := 0 } : Room) s m args below meth c H locs (dca vl0 vl) (dsl vl0 vl) QQ (F0 m 0 ls [])) := by
    intro k
    induction k with
    | zero => exact fun _ _ _ _ _ _ _ _ _ _ _ _ _ _ hq => cw_no hq
    | succ k ih_0 =>
      refine ?_
      · intro x1 r0 vl u z H locs ls hr0 hU hst h0 hM hl hq
        obtain ⟨hle, hq⟩ := dd_ch (show chV vl (dm_X1_makeRoom_0 K (d_X1_makeRoom K k) x1 r0 vl z) = some (r, vlE, z1) from hq)
        unfold dm_X1_makeRoom_0 at hq
        refine lv_iload_n hx hb dcX1_makeRoom_0 rfl (lv_at hl 1 rfl) ?_
        refine lv_aload_n hx hb dcX1_makeRoom_1 rfl (lv_at hl 0 rfl) ?_
        refine vgX1_46 hx hb hT hown hK hM hr0 dcX1_makeRoom_2 ?_
        refine uw_alen cX_ok hx hb hK hM (cr_X1_10 hr0) dcX1_makeRoom_5 ?_
        refine lv_icmp_le (tgt := 45) hx hb dcX1_makeRoom_6 (by decide) (fun hc => ?_) (fun hc => ?_)
        · have hq := tw_it hq hc
          exact dd_vret hx hb hr hlocks hU hst hM hq hQQ dcX1_makeRoom_45
        · have hq := tw_if hq hc
          refine lv_aload_n hx hb dcX1_makeRoom_9 rfl (lv_at hl 0 rfl) ?_
          refine lv_iconst (v := 2) hx hb dcX1_makeRoom_10 (by decide) ?_
          refine lv_iload_n hx hb dcX1_makeRoom_11 rfl (lv_at hl 1 rfl) ?_
          refine lv_imul hx hb dcX1_makeRoom_12 ?_
          refine dd_new (k := 10) hx hb (hts _ (List.mem_cons_of_mem _ List.mem_cons_self)) hT wC_X1 hown hK hA hU hM hr0 (by decide) (by obtain rfl : r0 = 43000 := List.mem_singleton.mp hr0; decide) (hT _ xq_213) (fun _ h9 => h9) rfl (by decide +kernel) h0 hq rfl rfl dcX1_makeRoom_13 dcX1_makeRoom_15 (fun vl u z1 H locs hU hs1 h0 hle hM hq => ?_)
          have hl : lv_has ls 2 [(0, .ref (u r0)), (1, .int x1)] := by rw [hs1 r0 (ns_X1 hr0)]; exact hl
          have hst : ∀ h, h ∉ dynL → u h = u0 h := fun h hh => (hs1 h hh).trans (hst h hh)
          refine lv_aload_n hx hb dcX1_makeRoom_18 rfl (lv_at hl 0 rfl) ?_
          refine lv_iconst (v := 2) hx hb dcX1_makeRoom_19 (by decide) ?_
          refine lv_iload_n hx hb dcX1_makeRoom_20 rfl (lv_at hl 1 rfl) ?_
          refine lv_imul hx hb dcX1_makeRoom_21 ?_
          refine dd_new (k := 11) hx hb (hts _ (List.mem_cons_of_mem _ List.mem_cons_self)) hT wC_X1 hown hK hA hU hM hr0 (by decide) (by obtain rfl : r0 = 43000 := List.mem_singleton.mp hr0; decide) (hT _ xq_200) (fun _ h9 => h9) rfl (by decide +kernel) h0 hq rfl rfl dcX1_makeRoom_22 dcX1_makeRoom_24 (fun vl u z2 H locs hU hs1 h0 hle hM hq => ?_)
          have hl : lv_has ls 2 [(0, .ref (u r0)), (1, .int x1)] := by rw [hs1 r0 (ns_X1 hr0)]; exact hl
          have hst : ∀ h, h ∉ dynL → u h = u0 h := fun h hh => (hs1 h hh).trans (hst h hh)
          refine lv_aload_n hx hb dcX1_makeRoom_27 rfl (lv_at hl 0 rfl) ?_
          refine lv_iconst (v := 2) hx hb dcX1_makeRoom_28 (by decide) ?_
          refine lv_iload_n hx hb dcX1_makeRoom_29 rfl (lv_at hl 1 rfl) ?_
          refine lv_imul hx hb dcX1_makeRoom_30 ?_
          refine dd_new (k := 12) hx hb (hts _ (List.mem_cons_of_mem _ List.mem_cons_self)) hT wC_X1 hown hK hA hU hM hr0 (by decide) (by obtain rfl : r0 = 43000 := List.mem_singleton.mp hr0; decide) (hT _ xq_214) (fun _ h9 => h9) rfl (by decide +kernel) h0 hq rfl rfl dcX1_makeRoom_31 dcX1_makeRoom_33 (fun vl u z3 H locs hU hs1 h0 hle hM hq => ?_)
          have hl : lv_has ls 2 [(0, .ref (u r0)), (1, .int x1)] := by rw [hs1 r0 (ns_X1 hr0)]; exact hl
          have hst : ∀ h, h ∉ dynL → u h = u0 h := fun h hh => (hs1 h hh).trans (hst h hh)
          refine lv_aload_n hx hb dcX1_makeRoom_36 rfl (lv_at hl 0 rfl) ?_
          refine lv_iconst (v := 2) hx hb dcX1_makeRoom_37 (by decide) ?_
          refine lv_iload_n hx hb dcX1_makeRoom_38 rfl (lv_at hl 1 rfl) ?_
          refine lv_imul hx hb dcX1_makeRoom_39 ?_
          refine dd_new (k := 13) hx hb (hts _ (List.mem_cons_of_mem _ List.mem_cons_self)) hT wC_X1 hown hK hA hU hM hr0 (by decide) (by obtain rfl : r0 = 43000 := List.mem_singleton.mp hr0; decide) (hT _ xq_199) (fun _ h9 => h9) rfl (by decide +kernel) h0 hq rfl rfl dcX1_makeRoom_40 dcX1_makeRoom_42 (fun vl u z4 H locs hU hs1 h0 hle hM hq => ?_)
          have hl : lv_has ls 2 [(0, .ref (u r0)), (1, .int x1)] := by rw [hs1 r0 (ns_X1 hr0)]; exact hl
          have hst : ∀ h, h ∉ dynL → u h = u0 h := fun h hh => (hs1 h hh).trans (hst h hh)
          exact dd_vret hx hb hr hlocks hU hst hM hq hQQ dcX1_makeRoom_45
  refine W.widen (k := dca vl0 vl0) (n := dsl vl0 vl0) (Nat.zero_le _) (Nat.zero_le _) ?_
  exact (key K) x1 r0 vl0 u0 z s.heap [] ls hr0 hU (fun _ _ => rfl) (Nat.le_refl _) hM (lv_sub hl [0, 1] rfl) hq
theorem dcX1_layOut_0 : decode cX1_layOut 0 = .ok (.aload_n 0, 1) := dw_at cX1_layOut_k0 (p := 0) rfl (by decide +kernel)
theorem dcX1_layOut_1 : decode cX1_layOut 1 = .ok (.getfield 43, 3) := dw_at cX1_layOut_k0 (p := 1) rfl (by decide +kernel)
theorem dcX1_layOut_4 : decode cX1_layOut 4 = .ok (.iconst 0, 1) := dw_at cX1_layOut_k0 (p := 4) rfl (by decide +kernel)
theorem dcX1_layOut_5 : decode cX1_layOut 5 = .ok (.invokestatic 99, 3) := dw_at cX1_layOut_k0 (p := 5) rfl (by decide +kernel)
theorem dcX1_layOut_8 : decode cX1_layOut 8 = .ok (.iconst 0, 1) := dw_at cX1_layOut_k0 (p := 8) rfl (by decide +kernel)
theorem dcX1_layOut_9 : decode cX1_layOut 9 = .ok (.istore_n 2, 1) := dw_at cX1_layOut_k0 (p := 9) rfl (by decide +kernel)
theorem dcX1_layOut_10 : decode cX1_layOut 10 = .ok (.iload_n 2, 1) := dw_at cX1_layOut_k0 (p := 10) rfl (by decide +kernel)
theorem dcX1_layOut_11 : decode cX1_layOut 11 = .ok (.iconst 1, 1) := dw_at cX1_layOut_k0 (p := 11) rfl (by decide +kernel)
theorem dcX1_layOut_12 : decode cX1_layOut 12 = .ok (.aload_n 0, 1) := dw_at cX1_layOut_k0 (p := 12) rfl (by decide +kernel)
theorem dcX1_layOut_13 : decode cX1_layOut 13 = .ok (.getfield 12, 3) := dw_at cX1_layOut_k0 (p := 13) rfl (by decide +kernel)
theorem dcX1_layOut_16 : decode cX1_layOut 16 = .ok (.getfield 90, 3) := dw_at cX1_layOut_k0 (p := 16) rfl (by decide +kernel)
theorem dcX1_layOut_19 : decode cX1_layOut 19 = .ok (.ishl, 1) := dw_at cX1_layOut_k0 (p := 19) rfl (by decide +kernel)
theorem dcX1_layOut_20 : decode cX1_layOut 20 = .ok (.if_icmp .ge 123, 3) := dw_at cX1_layOut_k0 (p := 20) rfl (by decide +kernel)
theorem dcX1_layOut_23 : decode cX1_layOut 23 = .ok (.iload_n 2, 1) := dw_at cX1_layOut_k0 (p := 23) rfl (by decide +kernel)
theorem dcX1_layOut_24 : decode cX1_layOut 24 = .ok (.invokestatic 67, 3) := dw_at cX1_layOut_k1 (p := 0) rfl (by decide +kernel)
theorem dcX1_layOut_27 : decode cX1_layOut 27 = .ok (.istore_n 3, 1) := dw_at cX1_layOut_k1 (p := 3) rfl (by decide +kernel)
theorem dcX1_layOut_28 : decode cX1_layOut 28 = .ok (.aload_n 0, 1) := dw_at cX1_layOut_k1 (p := 4) rfl (by decide +kernel)
theorem dcX1_layOut_29 : decode cX1_layOut 29 = .ok (.getfield 22, 3) := dw_at cX1_layOut_k1 (p := 5) rfl (by decide +kernel)
theorem dcX1_layOut_32 : decode cX1_layOut 32 = .ok (.iload_n 2, 1) := dw_at cX1_layOut_k1 (p := 8) rfl (by decide +kernel)
theorem dcX1_layOut_33 : decode cX1_layOut 33 = .ok (.iaload, 1) := dw_at cX1_layOut_k1 (p := 9) rfl (by decide +kernel)
theorem dcX1_layOut_34 : decode cX1_layOut 34 = .ok (.iload_n 1, 1) := dw_at cX1_layOut_k1 (p := 10) rfl (by decide +kernel)
theorem dcX1_layOut_35 : decode cX1_layOut 35 = .ok (.iadd, 1) := dw_at cX1_layOut_k1 (p := 11) rfl (by decide +kernel)
theorem dcX1_layOut_36 : decode cX1_layOut 36 = .ok (.iload_n 3, 1) := dw_at cX1_layOut_k1 (p := 12) rfl (by decide +kernel)
theorem dcX1_layOut_37 : decode cX1_layOut 37 = .ok (.isub, 1) := dw_at cX1_layOut_k1 (p := 13) rfl (by decide +kernel)
theorem dcX1_layOut_38 : decode cX1_layOut 38 = .ok (.istore 4, 2) := dw_at cX1_layOut_k1 (p := 14) rfl (by decide +kernel)
theorem dcX1_layOut_40 : decode cX1_layOut 40 = .ok (.iload 4, 2) := dw_at cX1_layOut_k1 (p := 16) rfl (by decide +kernel)
theorem dcX1_layOut_42 : decode cX1_layOut 42 = .ok (.iconst 1, 1) := dw_at cX1_layOut_k1 (p := 18) rfl (by decide +kernel)
theorem dcX1_layOut_43 : decode cX1_layOut 43 = .ok (.iand, 1) := dw_at cX1_layOut_k1 (p := 19) rfl (by decide +kernel)
theorem dcX1_layOut_44 : decode cX1_layOut 44 = .ok (.ifCond .ne 25, 3) := dw_at cX1_layOut_k1 (p := 20) rfl (by decide +kernel)
theorem dcX1_layOut_47 : decode cX1_layOut 47 = .ok (.iload 4, 2) := dw_at cX1_layOut_k1 (p := 23) rfl (by decide +kernel)
theorem dcX1_layOut_49 : decode cX1_layOut 49 = .ok (.ifCond .lt 20, 3) := dw_at cX1_layOut_k2 (p := 0) rfl (by decide +kernel)
theorem dcX1_layOut_52 : decode cX1_layOut 52 = .ok (.iload 4, 2) := dw_at cX1_layOut_k2 (p := 3) rfl (by decide +kernel)
theorem dcX1_layOut_54 : decode cX1_layOut 54 = .ok (.iconst 2, 1) := dw_at cX1_layOut_k2 (p := 5) rfl (by decide +kernel)
theorem dcX1_layOut_55 : decode cX1_layOut 55 = .ok (.aload_n 0, 1) := dw_at cX1_layOut_k2 (p := 6) rfl (by decide +kernel)
theorem dcX1_layOut_56 : decode cX1_layOut 56 = .ok (.getfield 22, 3) := dw_at cX1_layOut_k2 (p := 7) rfl (by decide +kernel)
theorem dcX1_layOut_59 : decode cX1_layOut 59 = .ok (.iload_n 2, 1) := dw_at cX1_layOut_k2 (p := 10) rfl (by decide +kernel)
theorem dcX1_layOut_60 : decode cX1_layOut 60 = .ok (.iaload, 1) := dw_at cX1_layOut_k2 (p := 11) rfl (by decide +kernel)
theorem dcX1_layOut_61 : decode cX1_layOut 61 = .ok (.imul, 1) := dw_at cX1_layOut_k2 (p := 12) rfl (by decide +kernel)
theorem dcX1_layOut_62 : decode cX1_layOut 62 = .ok (.if_icmp .gt 7, 3) := dw_at cX1_layOut_k2 (p := 13) rfl (by decide +kernel)
theorem dcX1_layOut_65 : decode cX1_layOut 65 = .ok (.iconst 1, 1) := dw_at cX1_layOut_k2 (p := 16) rfl (by decide +kernel)
theorem dcX1_layOut_66 : decode cX1_layOut 66 = .ok (.goto 4, 3) := dw_at cX1_layOut_k2 (p := 17) rfl (by decide +kernel)
theorem dcX1_layOut_69 : decode cX1_layOut 69 = .ok (.iconst 0, 1) := dw_at cX1_layOut_k2 (p := 20) rfl (by decide +kernel)
theorem dcX1_layOut_70 : decode cX1_layOut 70 = .ok (.istore 5, 2) := dw_at cX1_layOut_k2 (p := 21) rfl (by decide +kernel)
theorem dcX1_layOut_72 : decode cX1_layOut 72 = .ok (.aload_n 0, 1) := dw_at cX1_layOut_k2 (p := 23) rfl (by decide +kernel)
theorem dcX1_layOut_73 : decode cX1_layOut 73 = .ok (.getfield 37, 3) := dw_at cX1_layOut_k3 (p := 0) rfl (by decide +kernel)
theorem dcX1_layOut_76 : decode cX1_layOut 76 = .ok (.iload_n 2, 1) := dw_at cX1_layOut_k3 (p := 3) rfl (by decide +kernel)
theorem dcX1_layOut_77 : decode cX1_layOut 77 = .ok (.iload 5, 2) := dw_at cX1_layOut_k3 (p := 4) rfl (by decide +kernel)
theorem dcX1_layOut_79 : decode cX1_layOut 79 = .ok (.ifCond .eq 10, 3) := dw_at cX1_layOut_k3 (p := 6) rfl (by decide +kernel)
theorem dcX1_layOut_82 : decode cX1_layOut 82 = .ok (.iload 4, 2) := dw_at cX1_layOut_k3 (p := 9) rfl (by decide +kernel)
theorem dcX1_layOut_84 : decode cX1_layOut 84 = .ok (.iconst 2, 1) := dw_at cX1_layOut_k3 (p := 11) rfl (by decide +kernel)
theorem dcX1_layOut_85 : decode cX1_layOut 85 = .ok (.idiv, 1) := dw_at cX1_layOut_k3 (p := 12) rfl (by decide +kernel)
theorem dcX1_layOut_86 : decode cX1_layOut 86 = .ok (.goto 4, 3) := dw_at cX1_layOut_k3 (p := 13) rfl (by decide +kernel)
theorem dcX1_layOut_89 : decode cX1_layOut 89 = .ok (.iconst (-1), 1) := dw_at cX1_layOut_k3 (p := 16) rfl (by decide +kernel)
theorem dcX1_layOut_90 : decode cX1_layOut 90 = .ok (.iastore, 1) := dw_at cX1_layOut_k3 (p := 17) rfl (by decide +kernel)
theorem dcX1_layOut_91 : decode cX1_layOut 91 = .ok (.aload_n 0, 1) := dw_at cX1_layOut_k3 (p := 18) rfl (by decide +kernel)
theorem dcX1_layOut_92 : decode cX1_layOut 92 = .ok (.getfield 40, 3) := dw_at cX1_layOut_k3 (p := 19) rfl (by decide +kernel)
theorem dcX1_layOut_95 : decode cX1_layOut 95 = .ok (.iload_n 2, 1) := dw_at cX1_layOut_k3 (p := 22) rfl (by decide +kernel)
theorem dcX1_layOut_96 : decode cX1_layOut 96 = .ok (.aload_n 0, 1) := dw_at cX1_layOut_k3 (p := 23) rfl (by decide +kernel)
theorem dcX1_layOut_97 : decode cX1_layOut 97 = .ok (.getfield 43, 3) := dw_at cX1_layOut_k4 (p := 0) rfl (by decide +kernel)
theorem dcX1_layOut_100 : decode cX1_layOut 100 = .ok (.iload_n 3, 1) := dw_at cX1_layOut_k4 (p := 3) rfl (by decide +kernel)
theorem dcX1_layOut_101 : decode cX1_layOut 101 = .ok (.iaload, 1) := dw_at cX1_layOut_k4 (p := 4) rfl (by decide +kernel)
theorem dcX1_layOut_102 : decode cX1_layOut 102 = .ok (.iastore, 1) := dw_at cX1_layOut_k4 (p := 5) rfl (by decide +kernel)
theorem dcX1_layOut_103 : decode cX1_layOut 103 = .ok (.aload_n 0, 1) := dw_at cX1_layOut_k4 (p := 6) rfl (by decide +kernel)
theorem dcX1_layOut_104 : decode cX1_layOut 104 = .ok (.getfield 43, 3) := dw_at cX1_layOut_k4 (p := 7) rfl (by decide +kernel)
theorem dcX1_layOut_107 : decode cX1_layOut 107 = .ok (.iload_n 3, 1) := dw_at cX1_layOut_k4 (p := 10) rfl (by decide +kernel)
theorem dcX1_layOut_108 : decode cX1_layOut 108 = .ok (.dup2, 1) := dw_at cX1_layOut_k4 (p := 11) rfl (by decide +kernel)
theorem dcX1_layOut_109 : decode cX1_layOut 109 = .ok (.iaload, 1) := dw_at cX1_layOut_k4 (p := 12) rfl (by decide +kernel)
theorem dcX1_layOut_110 : decode cX1_layOut 110 = .ok (.iload 5, 2) := dw_at cX1_layOut_k4 (p := 13) rfl (by decide +kernel)
theorem dcX1_layOut_112 : decode cX1_layOut 112 = .ok (.ifCond .eq 22, 3) := dw_at cX1_layOut_k4 (p := 15) rfl (by decide +kernel)
theorem dcX1_layOut_115 : decode cX1_layOut 115 = .ok (.aload_n 0, 1) := dw_at cX1_layOut_k4 (p := 18) rfl (by decide +kernel)
theorem dcX1_layOut_116 : decode cX1_layOut 116 = .ok (.getfield 34, 3) := dw_at cX1_layOut_k4 (p := 19) rfl (by decide +kernel)
theorem dcX1_layOut_119 : decode cX1_layOut 119 = .ok (.aload_n 0, 1) := dw_at cX1_layOut_k4 (p := 22) rfl (by decide +kernel)
theorem dcX1_layOut_120 : decode cX1_layOut 120 = .ok (.getfield 22, 3) := dw_at cX1_layOut_k4 (p := 23) rfl (by decide +kernel)
theorem dcX1_layOut_123 : decode cX1_layOut 123 = .ok (.iload_n 2, 1) := dw_at cX1_layOut_k5 (p := 0) rfl (by decide +kernel)
theorem dcX1_layOut_124 : decode cX1_layOut 124 = .ok (.iaload, 1) := dw_at cX1_layOut_k5 (p := 1) rfl (by decide +kernel)
theorem dcX1_layOut_125 : decode cX1_layOut 125 = .ok (.aaload, 1) := dw_at cX1_layOut_k5 (p := 2) rfl (by decide +kernel)
theorem dcX1_layOut_126 : decode cX1_layOut 126 = .ok (.iload 4, 2) := dw_at cX1_layOut_k5 (p := 3) rfl (by decide +kernel)
theorem dcX1_layOut_128 : decode cX1_layOut 128 = .ok (.iconst 2, 1) := dw_at cX1_layOut_k5 (p := 5) rfl (by decide +kernel)
theorem dcX1_layOut_129 : decode cX1_layOut 129 = .ok (.idiv, 1) := dw_at cX1_layOut_k5 (p := 6) rfl (by decide +kernel)
theorem dcX1_layOut_130 : decode cX1_layOut 130 = .ok (.iaload, 1) := dw_at cX1_layOut_k5 (p := 7) rfl (by decide +kernel)
theorem dcX1_layOut_131 : decode cX1_layOut 131 = .ok (.goto 4, 3) := dw_at cX1_layOut_k5 (p := 8) rfl (by decide +kernel)
theorem dcX1_layOut_134 : decode cX1_layOut 134 = .ok (.iconst 0, 1) := dw_at cX1_layOut_k5 (p := 11) rfl (by decide +kernel)
theorem dcX1_layOut_135 : decode cX1_layOut 135 = .ok (.iadd, 1) := dw_at cX1_layOut_k5 (p := 12) rfl (by decide +kernel)
theorem dcX1_layOut_136 : decode cX1_layOut 136 = .ok (.iastore, 1) := dw_at cX1_layOut_k5 (p := 13) rfl (by decide +kernel)
theorem dcX1_layOut_137 : decode cX1_layOut 137 = .ok (.iinc 2 1, 3) := dw_at cX1_layOut_k5 (p := 14) rfl (by decide +kernel)
theorem dcX1_layOut_140 : decode cX1_layOut 140 = .ok (.goto (-130), 3) := dw_at cX1_layOut_k5 (p := 17) rfl (by decide +kernel)
theorem dcX1_layOut_143 : decode cX1_layOut 143 = .ok (.iconst 0, 1) := dw_at cX1_layOut_k5 (p := 20) rfl (by decide +kernel)
theorem dcX1_layOut_144 : decode cX1_layOut 144 = .ok (.istore_n 2, 1) := dw_at cX1_layOut_k5 (p := 21) rfl (by decide +kernel)
theorem dcX1_layOut_145 : decode cX1_layOut 145 = .ok (.iload_n 2, 1) := dw_at cX1_layOut_k5 (p := 22) rfl (by decide +kernel)
theorem dcX1_layOut_146 : decode cX1_layOut 146 = .ok (.aload_n 0, 1) := dw_at cX1_layOut_k5 (p := 23) rfl (by decide +kernel)
theorem dcX1_layOut_147 : decode cX1_layOut 147 = .ok (.getfield 43, 3) := dw_at cX1_layOut_k6 (p := 0) rfl (by decide +kernel)
theorem dcX1_layOut_150 : decode cX1_layOut 150 = .ok (.arraylength, 1) := dw_at cX1_layOut_k6 (p := 3) rfl (by decide +kernel)
theorem dcX1_layOut_151 : decode cX1_layOut 151 = .ok (.if_icmp .ge 19, 3) := dw_at cX1_layOut_k6 (p := 4) rfl (by decide +kernel)
theorem dcX1_layOut_154 : decode cX1_layOut 154 = .ok (.aload_n 0, 1) := dw_at cX1_layOut_k6 (p := 7) rfl (by decide +kernel)
theorem dcX1_layOut_155 : decode cX1_layOut 155 = .ok (.aload_n 0, 1) := dw_at cX1_layOut_k6 (p := 8) rfl (by decide +kernel)
theorem dcX1_layOut_156 : decode cX1_layOut 156 = .ok (.getfield 43, 3) := dw_at cX1_layOut_k6 (p := 9) rfl (by decide +kernel)
theorem dcX1_layOut_159 : decode cX1_layOut 159 = .ok (.iload_n 2, 1) := dw_at cX1_layOut_k6 (p := 12) rfl (by decide +kernel)
theorem dcX1_layOut_160 : decode cX1_layOut 160 = .ok (.iaload, 1) := dw_at cX1_layOut_k6 (p := 13) rfl (by decide +kernel)
theorem dcX1_layOut_161 : decode cX1_layOut 161 = .ok (.invokevirtual 160, 3) := dw_at cX1_layOut_k6 (p := 14) rfl (by decide +kernel)
theorem dcX1_layOut_164 : decode cX1_layOut 164 = .ok (.iinc 2 1, 3) := dw_at cX1_layOut_k6 (p := 17) rfl (by decide +kernel)
theorem dcX1_layOut_167 : decode cX1_layOut 167 = .ok (.goto (-22), 3) := dw_at cX1_layOut_k6 (p := 20) rfl (by decide +kernel)
theorem dcX1_layOut_170 : decode cX1_layOut 170 = .ok (.aload_n 0, 1) := dw_at cX1_layOut_k6 (p := 23) rfl (by decide +kernel)
theorem dcX1_layOut_171 : decode cX1_layOut 171 = .ok (.getfield 55, 3) := dw_at cX1_layOut_k7 (p := 0) rfl (by decide +kernel)
theorem dcX1_layOut_174 : decode cX1_layOut 174 = .ok (.iconst 0, 1) := dw_at cX1_layOut_k7 (p := 3) rfl (by decide +kernel)
theorem dcX1_layOut_175 : decode cX1_layOut 175 = .ok (.invokestatic 99, 3) := dw_at cX1_layOut_k7 (p := 4) rfl (by decide +kernel)
theorem dcX1_layOut_178 : decode cX1_layOut 178 = .ok (.return_, 1) := dw_at cX1_layOut_k7 (p := 7) rfl (by decide +kernel)
def dm_X1_layOut_0 (K : Nat) (go : Nat → Int32 → Int32 → Int32 → Int32 → Int32 → Nat → Int32 → Int32 → Int32 → (Nat → Nat) → ow_MS → Option (Unit × (Nat → Nat) × ow_MS)) (x1 : Int32) (x2 : Int32) (x3 : Int32) (x4 : Int32) (x5 : Int32) (r0 : Nat) (t0 : Int32) (t1 : Int32) (t2 : Int32) (vl : Nat → Nat) (z : ow_MS) : Option (Unit × (Nat → Nat) × ow_MS) :=
 cs0 (ce_J7_fill_53178 vl K (r0 + 9) 0 z) fun z1 => go 1 x1 0 0 0 0 r0 0 0 0 vl z1
def dm_X1_layOut_1 (K : Nat) (go : Nat → Int32 → Int32 → Int32 → Int32 → Int32 → Nat → Int32 → Int32 → Int32 → (Nat → Nat) → ow_MS → Option (Unit × (Nat → Nat) × ow_MS)) (x1 : Int32) (x2 : Int32) (x3 : Int32) (x4 : Int32) (x5 : Int32) (r0 : Nat) (t0 : Int32) (t1 : Int32) (t2 : Int32) (vl : Nat → Nat) (z : ow_MS) : Option (Unit × (Nat → Nat) × ow_MS) :=
 rdF z ((r0 + 1000) + 8) fun v2 => (if ((1 : Int32) <<< ((v2 : Int32) &&& 31)) ≤ x2 then go 6 x1 0 0 0 0 r0 0 0 0 vl z
 else crI (cX vl) z (r0 + 3) x2 fun v4 => (if (((v4 + x1) - (ow_bc x2)) &&& 1) = 0 then (if ((v4 + x1) - (ow_bc x2)) < 0 then go 2 x1 x2 (ow_bc x2) ((v4 + x1) - (ow_bc x2)) 0 r0 0 0 0 vl z
 else crI (cX vl) z (r0 + 3) x2 fun v5 => (if (2 * v5) < ((v4 + x1) - (ow_bc x2)) then go 2 x1 x2 (ow_bc x2) ((v4 + x1) - (ow_bc x2)) 0 r0 0 0 0 vl z
 else go 3 x1 x2 (ow_bc x2) ((v4 + x1) - (ow_bc x2)) 0 r0 1 0 0 vl z))
 else go 2 x1 x2 (ow_bc x2) ((v4 + x1) - (ow_bc x2)) 0 r0 0 0 0 vl z))
def dm_X1_layOut_2 (K : Nat) (go : Nat → Int32 → Int32 → Int32 → Int32 → Int32 → Nat → Int32 → Int32 → Int32 → (Nat → Nat) → ow_MS → Option (Unit × (Nat → Nat) × ow_MS)) (x1 : Int32) (x2 : Int32) (x3 : Int32) (x4 : Int32) (x5 : Int32) (r0 : Nat) (t0 : Int32) (t1 : Int32) (t2 : Int32) (vl : Nat → Nat) (z : ow_MS) : Option (Unit × (Nat → Nat) × ow_MS) :=
 go 3 x1 x2 x3 x4 0 r0 0 0 0 vl z
def dm_X1_layOut_3 (K : Nat) (go : Nat → Int32 → Int32 → Int32 → Int32 → Int32 → Nat → Int32 → Int32 → Int32 → (Nat → Nat) → ow_MS → Option (Unit × (Nat → Nat) × ow_MS)) (x1 : Int32) (x2 : Int32) (x3 : Int32) (x4 : Int32) (x5 : Int32) (r0 : Nat) (t0 : Int32) (t1 : Int32) (t2 : Int32) (vl : Nat → Nat) (z : ow_MS) : Option (Unit × (Nat → Nat) × ow_MS) :=
 (if t0 = 0 then go 4 x1 x2 x3 x4 t0 r0 (-1) x2 0 vl z
 else nzI 2 (go 4 x1 x2 x3 x4 t0 r0 (x4 / 2) x2 0 vl z))
def dm_X1_layOut_4 (K : Nat) (go : Nat → Int32 → Int32 → Int32 → Int32 → Int32 → Nat → Int32 → Int32 → Int32 → (Nat → Nat) → ow_MS → Option (Unit × (Nat → Nat) × ow_MS)) (x1 : Int32) (x2 : Int32) (x3 : Int32) (x4 : Int32) (x5 : Int32) (r0 : Nat) (t0 : Int32) (t1 : Int32) (t2 : Int32) (vl : Nat → Nat) (z : ow_MS) : Option (Unit × (Nat → Nat) × ow_MS) :=
 ctI (cX vl) z (r0 + 7) t1 t0 fun z6 => crI (cX vl) z6 (r0 + 9) x3 fun v7 => ctI (cX vl) z6 (r0 + 8) x2 v7 fun z8 => crI (cX vl) z8 (r0 + 9) x3 fun v9 => (if x5 = 0 then go 5 x1 x2 x3 x4 x5 r0 0 v9 x3 vl z8
 else crI (cX vl) z8 (r0 + 3) x2 fun v10 => crX 11 v10 fun j11 => nzI 2 (crI (cX vl) z8 (r0 + 2001 + j11) (x4 / 2) fun v12 => go 5 x1 x2 x3 x4 x5 r0 v12 v9 x3 vl z8))
def dm_X1_layOut_5 (K : Nat) (go : Nat → Int32 → Int32 → Int32 → Int32 → Int32 → Nat → Int32 → Int32 → Int32 → (Nat → Nat) → ow_MS → Option (Unit × (Nat → Nat) × ow_MS)) (x1 : Int32) (x2 : Int32) (x3 : Int32) (x4 : Int32) (x5 : Int32) (r0 : Nat) (t0 : Int32) (t1 : Int32) (t2 : Int32) (vl : Nat → Nat) (z : ow_MS) : Option (Unit × (Nat → Nat) × ow_MS) :=
 ctI (cX vl) z (r0 + 9) t2 (t1 + t0) fun z13 => go 1 x1 (x2 + 1) 0 0 0 r0 0 0 0 vl z13
def dm_X1_layOut_6 (K : Nat) (go : Nat → Int32 → Int32 → Int32 → Int32 → Int32 → Nat → Int32 → Int32 → Int32 → (Nat → Nat) → ow_MS → Option (Unit × (Nat → Nat) × ow_MS)) (x1 : Int32) (x2 : Int32) (x3 : Int32) (x4 : Int32) (x5 : Int32) (r0 : Nat) (t0 : Int32) (t1 : Int32) (t2 : Int32) (vl : Nat → Nat) (z : ow_MS) : Option (Unit × (Nat → Nat) × ow_MS) :=
 (if (Int32.ofNat (uw_len (cX vl) z (r0 + 9))) ≤ x2 then cs0 (ce_J7_fill_53178 vl K (r0 + 14) 0 z) fun z14 => some ((), vl, z14)
 else crI (cX vl) z (r0 + 9) x2 fun v15 => dc1 (de_X1_makeRoom K r0 v15 vl z) fun v17 vl z16 => chV vl (go 6 x1 (x2 + 1) 0 0 0 r0 0 0 0 vl z16))
def db_X1_layOut (K : Nat) (go : Nat → Int32 → Int32 → Int32 → Int32 → Int32 → Nat → Int32 → Int32 → Int32 → (Nat → Nat) → ow_MS → Option (Unit × (Nat → Nat) × ow_MS)) (L : Nat) (x1 : Int32) (x2 : Int32) (x3 : Int32) (x4 : Int32) (x5 : Int32) (r0 : Nat) (t0 : Int32) (t1 : Int32) (t2 : Int32) (vl : Nat → Nat) (z : ow_MS) : Option (Unit × (Nat → Nat) × ow_MS) := match L with
  | 0 => chV vl (dm_X1_layOut_0 K go x1 x2 x3 x4 x5 r0 t0 t1 t2 vl z)
  | 1 => chV vl (dm_X1_layOut_1 K go x1 x2 x3 x4 x5 r0 t0 t1 t2 vl z)
  | 2 => chV vl (dm_X1_layOut_2 K go x1 x2 x3 x4 x5 r0 t0 t1 t2 vl z)
  | 3 => chV vl (dm_X1_layOut_3 K go x1 x2 x3 x4 x5 r0 t0 t1 t2 vl z)
  | 4 => chV vl (dm_X1_layOut_4 K go x1 x2 x3 x4 x5 r0 t0 t1 t2 vl z)
  | 5 => chV vl (dm_X1_layOut_5 K go x1 x2 x3 x4 x5 r0 t0 t1 t2 vl z)
  | 6 => chV vl (dm_X1_layOut_6 K go x1 x2 x3 x4 x5 r0 t0 t1 t2 vl z)
  | _ => none
def d_X1_layOut (K : Nat) : Nat → Nat → Int32 → Int32 → Int32 → Int32 → Int32 → Nat → Int32 → Int32 → Int32 → (Nat → Nat) → ow_MS → Option (Unit × (Nat → Nat) × ow_MS)
  | 0 => fun _ _ _ _ _ _ _ _ _ _ _ _ => none
  | k + 1 => db_X1_layOut K (d_X1_layOut K k)
def de_X1_layOut (K : Nat) (r0 : Nat) (x1 : Int32) (vl : Nat → Nat) (z : ow_MS) : Option (Unit × (Nat → Nat) × ow_MS) := d_X1_layOut K K 0 x1 0 0 0 0 r0 0 0 0 vl z
theorem dl_X1_layOut {K : Nat} {r0 : Nat} {x1 : Int32} {vl vlE : Nat → Nat} {z z1 : ow_MS} {r : Unit} (h : de_X1_layOut K r0 x1 vl z = some (r, vlE, z1)) : dPhi vl ≤ dPhi vlE := by
  cases K with
  | zero => exact cw_no h
  | succ k => exact (dd_ch (show chV vl (dm_X1_layOut_0 (k + 1) (d_X1_layOut (k + 1) k) x1 0 0 0 0 r0 0 0 0 vl z) = some (r, vlE, z1) from h)).1
abbrev wc_X1_layOut : List Cond := .code yX1_layOut cX1_layOut 6 none :: wD
theorem cdd_X1_layOut : yX1_layOut.cls = RX1 ∧ yX1_layOut.cls ≠ "java/lang/invoke/MethodHandle" ∧ yX1_layOut.cls ≠ "java/lang/invoke/VarHandle" ∧ (parseMethodDescriptor yX1_layOut.desc).map (fun d => d.parameters.length) = some 1 := by decide +kernel
set_option maxHeartbeats 4000000 in
set_option maxRecDepth 100000 in
theorem kd_X1_layOut (l : Launch) (D : va_G) (q : Nat → ClassId) (vl0 u0 : Nat → Nat) (hU0 : tw_inj (cX vl0) u0) (K : Nat) (r0 : Nat) (x1 : Int32) (hr0 : cw_X1 r0) (z z1 : ow_MS) (vlE : Nat → Nat) (r : Unit) (sz : Nat) (hq : de_X1_layOut K r0 x1 vl0 z = some (r, vlE, z1)) : Met l yX1_layOut wc_X1_layOut ({ frames := 1, cells := dca vl0 vlE, slots := dsl vl0 vlE, locals := 23 } : Room) (va_Pc [.ref (u0 r0), .int x1] (cw_preD D q vl0 u0 z sz)) (va_Qv (fun (u1 : Nat → Nat) => cd_U u0 u1 sz) (fun u1 t => va_P D vwCl (uw (cX vlE) q u1 z1) t.heap) (cd_A u0 sz)) (dca vl0 vlE) (dsl vl0 vlE) (cd_A u0 sz) := by
  refine Met.ofW (cc := cX1_layOut) (maxL := 6) (ret := none) (by decide) rfl ?_
  intro p e s m args below meth c s₁ B hml hv
  obtain ⟨rfl, rfl, hP, hK⟩ := hv
  have hx := B.exec
  have hb := B.bytes
  have hr := B.returns
  have hts := atoms_spec (ws := wc_X1_layOut) B.pre
  have hT : ∀ w ∈ wC, w.before ([.ref (u0 r0), .int x1] : List Value).toArray s = true := fun w h => hts w (List.mem_cons_of_mem _ (List.mem_cons_of_mem _ h))
  have hown : s.vm.findClass RX1 = some m.cls := findClass_of_methodNamed B.named
  have hlocks := B.notSynchronized
  have hA : ∀ q1 : Nat, s.heap.size ≤ q1 → cd_A u0 s.heap.size q1 := fun q1 h => Or.inr h
  have hU : uw_inj (cX vl0) u0 (cd_A u0 s.heap.size) := ⟨hU0, fun h hh => Or.inl ⟨h, hh, rfl⟩⟩
  have hM : uw_M D vwCl (cX vl0) q (cd_A u0 s.heap.size) s.heap u0 z s.heap [] := ⟨hP, va_S.rf⟩
  have hl := lv_entry ([.ref (u0 r0), .int x1]) (n := 6) (Nat.le_of_ble_eq_true rfl)
  rw [lg_entry_eq]
  generalize (lg_sl ([.ref (u0 r0), .int x1]) ++ List.replicate (6 - (lg_sl ([.ref (u0 r0), .int x1])).length) Slot.unset).toArray = ls at hl ⊢
  have hl : lv_has ls 6 [(0, .ref (u0 r0)), (1, .int x1)] := hl
  refine ow_named (fun QQ hQQ => ?_)
  generalize ([.ref (u0 r0), .int x1] : List Value).toArray = args at hts hT hQQ ⊢
  have key : ∀ k : Nat, (∀ (x1 : Int32) (x2 : Int32) (x3 : Int32) (x4 : Int32) (x5 : Int32) (r0 : Nat) (t0 : Int32) (t1 : Int32) (t2 : Int32) (vl u : Nat → Nat) (z : ow_MS) (H : Heap) (locs : List Loc) (ls : Array Slot), cw_X1 r0 → uw_inj (cX vl) u (cd_A u0 s.heap.size) → (∀ h, h ∉ dynL → u h = u0 h) → dPhi vl0 ≤ dPhi vl → uw_M D vwCl (cX vl) q (cd_A u0 s.heap.size) s.heap u z H locs → lv_has ls 6 [(0, .ref (u r0)), (1, .int x1)] → d_X1_layOut K k 0 x1 x2 x3 x4 x5 r0 t0 t1 t2 vl z = some (r, vlE, z1) → W p l e ({ frames := 1, cells := dca vl0 vlE, slots := dsl vl0 vlE, locals := 23 } : Room) s m args below meth c H locs (dca vl0 vl) (dsl vl0 vl) QQ (F0 m 0 ls [])) ∧ (∀ (x1 : Int32) (x2 : Int32) (x3 : Int32) (x4 : Int32) (x5 : Int32) (r0 : Nat) (t0 : Int32) (t1 : Int32) (t2 : Int32) (vl u : Nat → Nat) (z : ow_MS) (H : Heap) (locs : List Loc) (ls : Array Slot), cw_X1 r0 → uw_inj (cX vl) u (cd_A u0 s.heap.size) → (∀ h, h ∉ dynL → u h = u0 h) → dPhi vl0 ≤ dPhi vl → uw_M D vwCl (cX vl) q (cd_A u0 s.heap.size) s.heap u z H locs → lv_has ls 6 [(0, .ref (u r0)), (1, .int x1), (2, .int x2)] → d_X1_layOut K k 1 x1 x2 x3 x4 x5 r0 t0 t1 t2 vl z = some (r, vlE, z1) → W p l e ({ frames := 1, cells := dca vl0 vlE, slots := dsl vl0 vlE, locals := 23 } : Room) s m args below meth c H locs (dca vl0 vl) (dsl vl0 vl) QQ (F0 m 10 ls [])) ∧ (∀ (x1 : Int32) (x2 : Int32) (x3 : Int32) (x4 : Int32) (x5 : Int32) (r0 : Nat) (t0 : Int32) (t1 : Int32) (t2 : Int32) (vl u : Nat → Nat) (z : ow_MS) (H : Heap) (locs : List Loc) (ls : Array Slot), cw_X1 r0 → uw_inj (cX vl) u (cd_A u0 s.heap.size) → (∀ h, h ∉ dynL → u h = u0 h) → dPhi vl0 ≤ dPhi vl → uw_M D vwCl (cX vl) q (cd_A u0 s.heap.size) s.heap u z H locs → lv_has ls 6 [(0, .ref (u r0)), (1, .int x1), (2, .int x2), (3, .int x3), (4, .int x4)] → d_X1_layOut K k 2 x1 x2 x3 x4 x5 r0 t0 t1 t2 vl z = some (r, vlE, z1) → W p l e ({ frames := 1, cells := dca vl0 vlE, slots := dsl vl0 vlE, locals := 23 } : Room) s m args below meth c H locs (dca vl0 vl) (dsl vl0 vl) QQ (F0 m 69 ls [])) ∧ (∀ (x1 : Int32) (x2 : Int32) (x3 : Int32) (x4 : Int32) (x5 : Int32) (r0 : Nat) (t0 : Int32) (t1 : Int32) (t2 : Int32) (vl u : Nat → Nat) (z : ow_MS) (H : Heap) (locs : List Loc) (ls : Array Slot), cw_X1 r0 → uw_inj (cX vl) u (cd_A u0 s.heap.size) → (∀ h, h ∉ dynL → u h = u0 h) → dPhi vl0 ≤ dPhi vl → uw_M D vwCl (cX vl) q (cd_A u0 s.heap.size) s.heap u z H locs → lv_has ls 6 [(0, .ref (u r0)), (1, .int x1), (2, .int x2), (3, .int x3), (4, .int x4)] → d_X1_layOut K k 3 x1 x2 x3 x4 x5 r0 t0 t1 t2 vl z = some (r, vlE, z1) → W p l e ({ frames := 1, cells := dca vl0 vlE, slots := dsl vl0 vlE, locals := 23 } : Room) s m args below meth c H locs (dca vl0 vl) (dsl vl0 vl) QQ (F0 m 70 ls [.int t0])) ∧ (∀ (x1 : Int32) (x2 : Int32) (x3 : Int32) (x4 : Int32) (x5 : Int32) (r0 : Nat) (t0 : Int32) (t1 : Int32) (t2 : Int32) (vl u : Nat → Nat) (z : ow_MS) (H : Heap) (locs : List Loc) (ls : Array Slot), cw_X1 r0 → uw_inj (cX vl) u (cd_A u0 s.heap.size) → (∀ h, h ∉ dynL → u h = u0 h) → dPhi vl0 ≤ dPhi vl → uw_M D vwCl (cX vl) q (cd_A u0 s.heap.size) s.heap u z H locs → lv_has ls 6 [(0, .ref (u r0)), (1, .int x1), (2, .int x2), (3, .int x3), (4, .int x4), (5, .int x5)] → d_X1_layOut K k 4 x1 x2 x3 x4 x5 r0 t0 t1 t2 vl z = some (r, vlE, z1) → W p l e ({ frames := 1, cells := dca vl0 vlE, slots := dsl vl0 vlE, locals := 23 } : Room) s m args below meth c H locs (dca vl0 vl) (dsl vl0 vl) QQ (F0 m 90 ls [.int t0, .int t1, .ref (u (r0 + 7))])) ∧ (∀ (x1 : Int32) (x2 : Int32) (x3 : Int32) (x4 : Int32) (x5 : Int32) (r0 : Nat) (t0 : Int32) (t1 : Int32) (t2 : Int32) (vl u : Nat → Nat) (z : ow_MS) (H : Heap) (locs : List Loc) (ls : Array Slot), cw_X1 r0 → uw_inj (cX vl) u (cd_A u0 s.heap.size) → (∀ h, h ∉ dynL → u h = u0 h) → dPhi vl0 ≤ dPhi vl → uw_M D vwCl (cX vl) q (cd_A u0 s.heap.size) s.heap u z H locs → lv_has ls 6 [(0, .ref (u r0)), (1, .int x1), (2, .int x2), (3, .int x3), (4, .int x4), (5, .int x5)] → d_X1_layOut K k 5 x1 x2 x3 x4 x5 r0 t0 t1 t2 vl z = some (r, vlE, z1) → W p l e ({ frames := 1, cells := dca vl0 vlE, slots := dsl vl0 vlE, locals := 23 } : Room) s m args below meth c H locs (dca vl0 vl) (dsl vl0 vl) QQ (F0 m 135 ls [.int t0, .int t1, .int t2, .ref (u (r0 + 9))])) ∧ (∀ (x1 : Int32) (x2 : Int32) (x3 : Int32) (x4 : Int32) (x5 : Int32) (r0 : Nat) (t0 : Int32) (t1 : Int32) (t2 : Int32) (vl u : Nat → Nat) (z : ow_MS) (H : Heap) (locs : List Loc) (ls : Array Slot), cw_X1 r0 → uw_inj (cX vl) u (cd_A u0 s.heap.size) → (∀ h, h ∉ dynL → u h = u0 h) → dPhi vl0 ≤ dPhi vl → uw_M D vwCl (cX vl) q (cd_A u0 s.heap.size) s.heap u z H locs → lv_has ls 6 [(0, .ref (u r0)), (1, .int x1), (2, .int x2)] → d_X1_layOut K k 6 x1 x2 x3 x4 x5 r0 t0 t1 t2 vl z = some (r, vlE, z1) → W p l e ({ frames := 1, cells := dca vl0 vlE, slots := dsl vl0 vlE, locals := 23 } : Room) s m args below meth c H locs (dca vl0 vl) (dsl vl0 vl) QQ (F0 m 145 ls [])) := by
    intro k
    induction k with
    | zero => exact ⟨fun _ _ _ _ _ _ _ _ _ _ _ _ _ _ _ _ _ _ _ _ _ hq => cw_no hq, fun _ _ _ _ _ _ _ _ _ _ _ _ _ _ _ _ _ _ _ _ _ hq => cw_no hq, fun _ _ _ _ _ _ _ _ _ _ _ _ _ _ _ _ _ _ _ _ _ hq => cw_no hq, fun _ _ _ _ _ _ _ _ _ _ _ _ _ _ _ _ _ _ _ _ _ hq => cw_no hq, fun _ _ _ _ _ _ _ _ _ _ _ _ _ _ _ _ _ _ _ _ _ hq => cw_no hq, fun _ _ _ _ _ _ _ _ _ _ _ _ _ _ _ _ _ _ _ _ _ hq => cw_no hq, fun _ _ _ _ _ _ _ _ _ _ _ _ _ _ _ _ _ _ _ _ _ hq => cw_no hq⟩
    | succ k ih =>
      obtain ⟨ih_0, ih_1, ih_2, ih_3, ih_4, ih_5, ih_6⟩ := ih
      refine ⟨?_, ?_, ?_, ?_, ?_, ?_, ?_⟩
      · intro x1 x2 x3 x4 x5 r0 t0 t1 t2 vl u z H locs ls hr0 hU hst h0 hM hl hq
        obtain ⟨hle, hq⟩ := dd_ch (show chV vl (dm_X1_layOut_0 K (d_X1_layOut K k) x1 x2 x3 x4 x5 r0 t0 t1 t2 vl z) = some (r, vlE, z1) from hq)
        unfold dm_X1_layOut_0 at hq
        refine lv_aload_n hx hb dcX1_layOut_0 rfl (lv_at hl 0 rfl) ?_
        refine vgX1_43 hx hb hT hown hK hM hr0 dcX1_layOut_1 ?_
        refine lv_iconst (v := 0) hx hb dcX1_layOut_4 (by decide) ?_
        obtain ⟨z1, hcq, hq⟩ := tw_cl0 hq
        refine uw_calv hU hM (va_runS (As := [.ref (u (r0 + 9)), .int 0]) (rest := []) ⟨hx, hb, hml, hown, hts⟩ (kc_J7_fill_53178 l D q vl u hU.1 K (r0 + 9) 0 (cr_X1_8 hr0) z z1 hcq) (va_cwS 2 hts (tw_gS2 wD_good (fun _ h => List.mem_cons_of_mem _ h) (List.mem_cons_of_mem _ xq_193) (List.mem_cons_of_mem _ xq_8) (List.mem_cons_of_mem _ xq_9) (List.mem_cons_of_mem _ xq_10)) rfl rfl rfl cdd_J7_fill_53178 ⟨(Nat.le_of_ble_eq_true rfl), (Nat.le_of_ble_eq_true rfl)⟩) (cw_preS hK hM) rfl rfl hl.1 rfl (lv_room (Nat.le_of_ble_eq_true rfl)) dcX1_layOut_5 ⟨dca_le hle, dsl_le hle⟩) (fun H locs hM => ?_)
        refine lv_iconst (v := 0) hx hb dcX1_layOut_8 (by decide) ?_
        refine lv_istore_n (lv' := [(2, .int 0), (0, .ref (u r0)), (1, .int x1)]) hx hb dcX1_layOut_9 rfl hl (by decide) rfl (fun ls hl => ?_)
        exact ih_1 x1 0 0 0 0 r0 0 0 0 vl u z1 H locs ls hr0 hU hst h0 hM (lv_sub hl [1, 2, 0] rfl) hq
      · intro x1 x2 x3 x4 x5 r0 t0 t1 t2 vl u z H locs ls hr0 hU hst h0 hM hl hq
        obtain ⟨hle, hq⟩ := dd_ch (show chV vl (dm_X1_layOut_1 K (d_X1_layOut K k) x1 x2 x3 x4 x5 r0 t0 t1 t2 vl z) = some (r, vlE, z1) from hq)
        unfold dm_X1_layOut_1 at hq
        refine lv_iload_n hx hb dcX1_layOut_10 rfl (lv_at hl 2 rfl) ?_
        refine lv_iconst (v := 1) hx hb dcX1_layOut_11 (by decide) ?_
        refine lv_aload_n hx hb dcX1_layOut_12 rfl (lv_at hl 0 rfl) ?_
        refine vgX1_12 hx hb hT hown hK hM hr0 dcX1_layOut_13 ?_
        refine vgX1_90 hx hb hT hown hK hM (cs_X1_0 hr0) hq dcX1_layOut_16 (fun v2 hq => ?_)
        refine lv_ishl hx hb dcX1_layOut_19 ?_
        refine lv_icmp_ge (tgt := 143) hx hb dcX1_layOut_20 (by decide) (fun hc => ?_) (fun hc => ?_)
        · have hq := tw_it hq hc
          refine lv_iconst (v := 0) hx hb dcX1_layOut_143 (by decide) ?_
          refine lv_istore_n (lv' := [(2, .int 0), (0, .ref (u r0)), (1, .int x1)]) hx hb dcX1_layOut_144 rfl hl (by decide) rfl (fun ls hl => ?_)
          exact ih_6 x1 0 0 0 0 r0 0 0 0 vl u z H locs ls hr0 hU hst h0 hM (lv_sub hl [1, 2, 0] rfl) hq
        · have hq := tw_if hq hc
          refine lv_iload_n hx hb dcX1_layOut_23 rfl (lv_at hl 2 rfl) ?_
          refine cw_pure hM (va_runS (As := [.int x2]) (rest := []) ⟨hx, hb, hml, hown, hts⟩ (k_J6_bitCount_0f7a4 l x2) (va_cwS 1 hts (dw_gbc xq_208) rfl rfl rfl (by decide +kernel) ⟨(Nat.le_of_ble_eq_true rfl), (Nat.le_of_ble_eq_true rfl)⟩) ⟨fun a U g mk q => q, fun U hU hW => ⟨rfl, trivial⟩⟩ rfl rfl hl.1 rfl (lv_room (Nat.le_of_ble_eq_true rfl)) dcX1_layOut_24 ⟨dca_le hle, dsl_le hle⟩) (fun H locs hM => ?_)
          refine lv_istore_n (lv' := [(3, .int (ow_bc x2)), (0, .ref (u r0)), (1, .int x1), (2, .int x2)]) hx hb dcX1_layOut_27 rfl hl (by decide) rfl (fun ls hl => ?_)
          refine lv_aload_n hx hb dcX1_layOut_28 rfl (lv_at hl 1 rfl) ?_
          refine vgX1_22 hx hb hT hown hK hM hr0 dcX1_layOut_29 ?_
          refine lv_iload_n hx hb dcX1_layOut_32 rfl (lv_at hl 3 rfl) ?_
          refine uw_iald cX_ok hx hb hK hM (cr_X1_2 hr0) hq dcX1_layOut_33 (fun v4 hq => ?_)
          refine lv_iload_n hx hb dcX1_layOut_34 rfl (lv_at hl 2 rfl) ?_
          refine lv_iadd hx hb dcX1_layOut_35 ?_
          refine lv_iload_n hx hb dcX1_layOut_36 rfl (lv_at hl 0 rfl) ?_
          refine lv_isub hx hb dcX1_layOut_37 ?_
          refine lv_istore (lv' := [(4, .int ((v4 + x1) - (ow_bc x2))), (3, .int (ow_bc x2)), (0, .ref (u r0)), (1, .int x1), (2, .int x2)]) hx hb dcX1_layOut_38 hl (by decide) rfl (fun ls hl => ?_)
          refine lv_iload hx hb dcX1_layOut_40 (lv_at hl 0 rfl) ?_
          refine lv_iconst (v := 1) hx hb dcX1_layOut_42 (by decide) ?_
          refine lv_iand hx hb dcX1_layOut_43 ?_
          refine lv_if_ne (tgt := 69) hx hb dcX1_layOut_44 (by decide) (fun hc => ?_) (fun hc => ?_)
          · have hq := tw_if hq hc
            exact ih_2 x1 x2 (ow_bc x2) ((v4 + x1) - (ow_bc x2)) 0 r0 0 0 0 vl u z H locs ls hr0 hU hst h0 hM (lv_sub hl [2, 3, 4, 1, 0] rfl) hq
          · have hq := tw_it hq hc
            refine lv_iload hx hb dcX1_layOut_47 (lv_at hl 0 rfl) ?_
            refine lv_if_lt (tgt := 69) hx hb dcX1_layOut_49 (by decide) (fun hc => ?_) (fun hc => ?_)
            · have hq := tw_it hq hc
              exact ih_2 x1 x2 (ow_bc x2) ((v4 + x1) - (ow_bc x2)) 0 r0 0 0 0 vl u z H locs ls hr0 hU hst h0 hM (lv_sub hl [2, 3, 4, 1, 0] rfl) hq
            · have hq := tw_if hq hc
              refine lv_iload hx hb dcX1_layOut_52 (lv_at hl 0 rfl) ?_
              refine lv_iconst (v := 2) hx hb dcX1_layOut_54 (by decide) ?_
              refine lv_aload_n hx hb dcX1_layOut_55 rfl (lv_at hl 2 rfl) ?_
              refine vgX1_22 hx hb hT hown hK hM hr0 dcX1_layOut_56 ?_
              refine lv_iload_n hx hb dcX1_layOut_59 rfl (lv_at hl 4 rfl) ?_
              refine uw_iald cX_ok hx hb hK hM (cr_X1_2 hr0) hq dcX1_layOut_60 (fun v5 hq => ?_)
              refine lv_imul hx hb dcX1_layOut_61 ?_
              refine lv_icmp_gt (tgt := 69) hx hb dcX1_layOut_62 (by decide) (fun hc => ?_) (fun hc => ?_)
              · have hq := tw_it hq hc
                exact ih_2 x1 x2 (ow_bc x2) ((v4 + x1) - (ow_bc x2)) 0 r0 0 0 0 vl u z H locs ls hr0 hU hst h0 hM (lv_sub hl [2, 3, 4, 1, 0] rfl) hq
              · have hq := tw_if hq hc
                refine lv_iconst (v := 1) hx hb dcX1_layOut_65 (by decide) ?_
                refine lv_goto (tgt := 70) hx hb dcX1_layOut_66 (by decide) ?_
                exact ih_3 x1 x2 (ow_bc x2) ((v4 + x1) - (ow_bc x2)) 0 r0 1 0 0 vl u z H locs ls hr0 hU hst h0 hM (lv_sub hl [2, 3, 4, 1, 0] rfl) hq
      · intro x1 x2 x3 x4 x5 r0 t0 t1 t2 vl u z H locs ls hr0 hU hst h0 hM hl hq
        obtain ⟨hle, hq⟩ := dd_ch (show chV vl (dm_X1_layOut_2 K (d_X1_layOut K k) x1 x2 x3 x4 x5 r0 t0 t1 t2 vl z) = some (r, vlE, z1) from hq)
        unfold dm_X1_layOut_2 at hq
        refine lv_iconst (v := 0) hx hb dcX1_layOut_69 (by decide) ?_
        exact ih_3 x1 x2 x3 x4 0 r0 0 0 0 vl u z H locs ls hr0 hU hst h0 hM (lv_sub hl [0, 1, 2, 3, 4] rfl) hq
      · intro x1 x2 x3 x4 x5 r0 t0 t1 t2 vl u z H locs ls hr0 hU hst h0 hM hl hq
        obtain ⟨hle, hq⟩ := dd_ch (show chV vl (dm_X1_layOut_3 K (d_X1_layOut K k) x1 x2 x3 x4 x5 r0 t0 t1 t2 vl z) = some (r, vlE, z1) from hq)
        unfold dm_X1_layOut_3 at hq
        refine lv_istore (lv' := [(5, .int t0), (0, .ref (u r0)), (1, .int x1), (2, .int x2), (3, .int x3), (4, .int x4)]) hx hb dcX1_layOut_70 hl (by decide) rfl (fun ls hl => ?_)
        refine lv_aload_n hx hb dcX1_layOut_72 rfl (lv_at hl 1 rfl) ?_
        refine vgX1_37 hx hb hT hown hK hM hr0 dcX1_layOut_73 ?_
        refine lv_iload_n hx hb dcX1_layOut_76 rfl (lv_at hl 3 rfl) ?_
        refine lv_iload hx hb dcX1_layOut_77 (lv_at hl 0 rfl) ?_
        refine lv_if_eq (tgt := 89) hx hb dcX1_layOut_79 (by decide) (fun hc => ?_) (fun hc => ?_)
        · have hq := tw_it hq hc
          refine lv_iconst (v := (-1)) hx hb dcX1_layOut_89 (by decide) ?_
          exact ih_4 x1 x2 x3 x4 t0 r0 (-1) x2 0 vl u z H locs ls hr0 hU hst h0 hM (lv_sub hl [1, 2, 3, 4, 5, 0] rfl) hq
        · have hq := tw_if hq hc
          refine lv_iload hx hb dcX1_layOut_82 (lv_at hl 5 rfl) ?_
          refine lv_iconst (v := 2) hx hb dcX1_layOut_84 (by decide) ?_
          obtain ⟨hz, hq⟩ := tw_nzI hq
          refine lv_idiv hx hb dcX1_layOut_85 hz ?_
          refine lv_goto (tgt := 90) hx hb dcX1_layOut_86 (by decide) ?_
          exact ih_4 x1 x2 x3 x4 t0 r0 (x4 / 2) x2 0 vl u z H locs ls hr0 hU hst h0 hM (lv_sub hl [1, 2, 3, 4, 5, 0] rfl) hq
      · intro x1 x2 x3 x4 x5 r0 t0 t1 t2 vl u z H locs ls hr0 hU hst h0 hM hl hq
        obtain ⟨hle, hq⟩ := dd_ch (show chV vl (dm_X1_layOut_4 K (d_X1_layOut K k) x1 x2 x3 x4 x5 r0 t0 t1 t2 vl z) = some (r, vlE, z1) from hq)
        unfold dm_X1_layOut_4 at hq
        refine uw_iast cX_ok hU hx hb hK hM (cr_X1_6 hr0) hq dcX1_layOut_90 (fun z6 H locs hM hq => ?_)
        refine lv_aload_n hx hb dcX1_layOut_91 rfl (lv_at hl 0 rfl) ?_
        refine vgX1_40 hx hb hT hown hK hM hr0 dcX1_layOut_92 ?_
        refine lv_iload_n hx hb dcX1_layOut_95 rfl (lv_at hl 2 rfl) ?_
        refine lv_aload_n hx hb dcX1_layOut_96 rfl (lv_at hl 0 rfl) ?_
        refine vgX1_43 hx hb hT hown hK hM hr0 dcX1_layOut_97 ?_
        refine lv_iload_n hx hb dcX1_layOut_100 rfl (lv_at hl 3 rfl) ?_
        refine uw_iald cX_ok hx hb hK hM (cr_X1_8 hr0) hq dcX1_layOut_101 (fun v7 hq => ?_)
        refine uw_iast cX_ok hU hx hb hK hM (cr_X1_7 hr0) hq dcX1_layOut_102 (fun z8 H locs hM hq => ?_)
        refine lv_aload_n hx hb dcX1_layOut_103 rfl (lv_at hl 0 rfl) ?_
        refine vgX1_43 hx hb hT hown hK hM hr0 dcX1_layOut_104 ?_
        refine lv_iload_n hx hb dcX1_layOut_107 rfl (lv_at hl 3 rfl) ?_
        refine lv_dup2_11 hx hb dcX1_layOut_108 rfl rfl ?_
        refine uw_iald cX_ok hx hb hK hM (cr_X1_8 hr0) hq dcX1_layOut_109 (fun v9 hq => ?_)
        refine lv_iload hx hb dcX1_layOut_110 (lv_at hl 5 rfl) ?_
        refine lv_if_eq (tgt := 134) hx hb dcX1_layOut_112 (by decide) (fun hc => ?_) (fun hc => ?_)
        · have hq := tw_it hq hc
          refine lv_iconst (v := 0) hx hb dcX1_layOut_134 (by decide) ?_
          exact ih_5 x1 x2 x3 x4 x5 r0 0 v9 x3 vl u z8 H locs ls hr0 hU hst h0 hM (lv_sub hl [0, 1, 2, 3, 4, 5] rfl) hq
        · have hq := tw_if hq hc
          refine lv_aload_n hx hb dcX1_layOut_115 rfl (lv_at hl 0 rfl) ?_
          refine vgX1_34 hx hb hT hown hK hM hr0 dcX1_layOut_116 ?_
          refine lv_aload_n hx hb dcX1_layOut_119 rfl (lv_at hl 0 rfl) ?_
          refine vgX1_22 hx hb hT hown hK hM hr0 dcX1_layOut_120 ?_
          refine lv_iload_n hx hb dcX1_layOut_123 rfl (lv_at hl 2 rfl) ?_
          refine uw_iald cX_ok hx hb hK hM (cr_X1_2 hr0) hq dcX1_layOut_124 (fun v10 hq => ?_)
          refine ca_X1_5 hx hb hK hM hr0 hq dcX1_layOut_125 (fun j11 hj11 hq => ?_)
          refine lv_iload hx hb dcX1_layOut_126 (lv_at hl 4 rfl) ?_
          refine lv_iconst (v := 2) hx hb dcX1_layOut_128 (by decide) ?_
          obtain ⟨hz, hq⟩ := tw_nzI hq
          refine lv_idiv hx hb dcX1_layOut_129 hz ?_
          refine uw_iald cX_ok hx hb hK hM (cg_X1_5 hr0 hj11) hq dcX1_layOut_130 (fun v12 hq => ?_)
          refine lv_goto (tgt := 135) hx hb dcX1_layOut_131 (by decide) ?_
          exact ih_5 x1 x2 x3 x4 x5 r0 v12 v9 x3 vl u z8 H locs ls hr0 hU hst h0 hM (lv_sub hl [0, 1, 2, 3, 4, 5] rfl) hq
      · intro x1 x2 x3 x4 x5 r0 t0 t1 t2 vl u z H locs ls hr0 hU hst h0 hM hl hq
        obtain ⟨hle, hq⟩ := dd_ch (show chV vl (dm_X1_layOut_5 K (d_X1_layOut K k) x1 x2 x3 x4 x5 r0 t0 t1 t2 vl z) = some (r, vlE, z1) from hq)
        unfold dm_X1_layOut_5 at hq
        refine lv_iadd hx hb dcX1_layOut_135 ?_
        refine uw_iast cX_ok hU hx hb hK hM (cr_X1_8 hr0) hq dcX1_layOut_136 (fun z13 H locs hM hq => ?_)
        refine lv_iinc (v := (x2 + 1)) (lv' := [(2, .int (x2 + 1)), (0, .ref (u r0)), (1, .int x1), (3, .int x3), (4, .int x4), (5, .int x5)]) hx hb dcX1_layOut_137 hl (k := 2) rfl rfl (by decide) rfl (fun ls hl => ?_)
        refine lv_goto (tgt := 10) hx hb dcX1_layOut_140 (by decide) ?_
        exact ih_1 x1 (x2 + 1) 0 0 0 r0 0 0 0 vl u z13 H locs ls hr0 hU hst h0 hM (lv_sub hl [1, 2, 0] rfl) hq
      · intro x1 x2 x3 x4 x5 r0 t0 t1 t2 vl u z H locs ls hr0 hU hst h0 hM hl hq
        obtain ⟨hle, hq⟩ := dd_ch (show chV vl (dm_X1_layOut_6 K (d_X1_layOut K k) x1 x2 x3 x4 x5 r0 t0 t1 t2 vl z) = some (r, vlE, z1) from hq)
        unfold dm_X1_layOut_6 at hq
        refine lv_iload_n hx hb dcX1_layOut_145 rfl (lv_at hl 2 rfl) ?_
        refine lv_aload_n hx hb dcX1_layOut_146 rfl (lv_at hl 0 rfl) ?_
        refine vgX1_43 hx hb hT hown hK hM hr0 dcX1_layOut_147 ?_
        refine uw_alen cX_ok hx hb hK hM (cr_X1_8 hr0) dcX1_layOut_150 ?_
        refine lv_icmp_ge (tgt := 170) hx hb dcX1_layOut_151 (by decide) (fun hc => ?_) (fun hc => ?_)
        · have hq := tw_it hq hc
          refine lv_aload_n hx hb dcX1_layOut_170 rfl (lv_at hl 0 rfl) ?_
          refine vgX1_55 hx hb hT hown hK hM hr0 dcX1_layOut_171 ?_
          refine lv_iconst (v := 0) hx hb dcX1_layOut_174 (by decide) ?_
          obtain ⟨z14, hcq, hq⟩ := tw_cl0 hq
          refine uw_calv hU hM (va_runS (As := [.ref (u (r0 + 14)), .int 0]) (rest := []) ⟨hx, hb, hml, hown, hts⟩ (kc_J7_fill_53178 l D q vl u hU.1 K (r0 + 14) 0 (cr_X1_13 hr0) z z14 hcq) (va_cwS 2 hts (tw_gS2 wD_good (fun _ h => List.mem_cons_of_mem _ h) (List.mem_cons_of_mem _ xq_193) (List.mem_cons_of_mem _ xq_8) (List.mem_cons_of_mem _ xq_9) (List.mem_cons_of_mem _ xq_10)) rfl rfl rfl cdd_J7_fill_53178 ⟨(Nat.le_of_ble_eq_true rfl), (Nat.le_of_ble_eq_true rfl)⟩) (cw_preS hK hM) rfl rfl hl.1 rfl (lv_room (Nat.le_of_ble_eq_true rfl)) dcX1_layOut_175 ⟨dca_le hle, dsl_le hle⟩) (fun H locs hM => ?_)
          exact dd_vret hx hb hr hlocks hU hst hM hq hQQ dcX1_layOut_178
        · have hq := tw_if hq hc
          refine lv_aload_n hx hb dcX1_layOut_154 rfl (lv_at hl 0 rfl) ?_
          refine lv_aload_n hx hb dcX1_layOut_155 rfl (lv_at hl 0 rfl) ?_
          refine vgX1_43 hx hb hT hown hK hM hr0 dcX1_layOut_156 ?_
          refine lv_iload_n hx hb dcX1_layOut_159 rfl (lv_at hl 2 rfl) ?_
          refine uw_iald cX_ok hx hb hK hM (cr_X1_8 hr0) hq dcX1_layOut_160 (fun v15 hq => ?_)
          obtain ⟨v17, vm18, z16, hcq, hq⟩ := dd_dc1 hq
          obtain ⟨hle1, hq⟩ := dd_ch hq
          have hcl := dl_X1_makeRoom hcq
          refine dd_calv hA hU hM h0 hcl (va_runV (As := [.int v15]) (rest := []) ⟨hx, hb, hml, hown, hts⟩ (kd_X1_makeRoom l D q vl u hU.1 K r0 v15 hr0 z z16 vm18 v17 H.size hcq) (cwV 1 hts (tw_gV2 wD_good (fun _ h => h) (List.mem_cons_of_mem _ xq_209) (List.mem_cons_of_mem _ xq_210) (List.mem_cons_of_mem _ xq_211) (List.mem_cons_of_mem _ xq_138) (List.mem_cons_of_mem _ xq_212)) rfl rfl rfl cdd_X1_makeRoom ⟨(Nat.le_of_ble_eq_true rfl), (Nat.le_of_ble_eq_true rfl)⟩) (dd_preV hK hM (co_X1 hr0) rfl) rfl rfl hl.1 rfl (lv_room (Nat.le_of_ble_eq_true rfl)) dcX1_layOut_161 ⟨Nat.le_trans (dca_add h0 hcl) (dca_le hle1), Nat.le_trans (dsl_add h0 hcl) (dsl_le hle1)⟩) (fun u H locs hU hs1 hM => ?_)
          have h0 := Nat.le_trans h0 hcl
          have hle := hle1
          clear hle1
          have hl : lv_has ls 6 [(0, .ref (u r0)), (1, .int x1), (2, .int x2)] := by rw [hs1 r0 (ns_X1 hr0)]; exact hl
          have hst : ∀ h, h ∉ dynL → u h = u0 h := fun h hh => (hs1 h hh).trans (hst h hh)
          obtain ⟨vl, hvl⟩ : ∃ v, v = vm18 := ⟨_, rfl⟩
          rw [← hvl] at hU h0 hle hM hq ⊢
          refine lv_iinc (v := (x2 + 1)) (lv' := [(2, .int (x2 + 1)), (0, .ref (u r0)), (1, .int x1)]) hx hb dcX1_layOut_164 hl (k := 2) rfl rfl (by decide) rfl (fun ls hl => ?_)
          refine lv_goto (tgt := 145) hx hb dcX1_layOut_167 (by decide) ?_
          exact ih_6 x1 (x2 + 1) 0 0 0 r0 0 0 0 vl u z16 H locs ls hr0 hU hst h0 hM (lv_sub hl [1, 2, 0] rfl) hq
  refine W.widen (k := dca vl0 vl0) (n := dsl vl0 vl0) (Nat.zero_le _) (Nat.zero_le _) ?_
  exact (key K).1 x1 0 0 0 0 r0 0 0 0 vl0 u0 z s.heap [] ls hr0 hU (fun _ _ => rfl) (Nat.le_refl _) hM (lv_sub hl [0, 1] rfl) hq
theorem dcX1_rankDegree_0 : decode cX1_rankDegree 0 = .ok (.aload_n 0, 1) := dw_at cX1_rankDegree_k0 (p := 0) rfl (by decide +kernel)
theorem dcX1_rankDegree_1 : decode cX1_rankDegree 1 = .ok (.iload_n 1, 1) := dw_at cX1_rankDegree_k0 (p := 1) rfl (by decide +kernel)
theorem dcX1_rankDegree_2 : decode cX1_rankDegree 2 = .ok (.invokevirtual 154, 3) := dw_at cX1_rankDegree_k0 (p := 2) rfl (by decide +kernel)
theorem dcX1_rankDegree_5 : decode cX1_rankDegree 5 = .ok (.iconst 0, 1) := dw_at cX1_rankDegree_k0 (p := 5) rfl (by decide +kernel)
theorem dcX1_rankDegree_6 : decode cX1_rankDegree 6 = .ok (.istore_n 2, 1) := dw_at cX1_rankDegree_k0 (p := 6) rfl (by decide +kernel)
theorem dcX1_rankDegree_7 : decode cX1_rankDegree 7 = .ok (.iconst 0, 1) := dw_at cX1_rankDegree_k0 (p := 7) rfl (by decide +kernel)
theorem dcX1_rankDegree_8 : decode cX1_rankDegree 8 = .ok (.istore_n 3, 1) := dw_at cX1_rankDegree_k0 (p := 8) rfl (by decide +kernel)
theorem dcX1_rankDegree_9 : decode cX1_rankDegree 9 = .ok (.iload_n 3, 1) := dw_at cX1_rankDegree_k0 (p := 9) rfl (by decide +kernel)
theorem dcX1_rankDegree_10 : decode cX1_rankDegree 10 = .ok (.aload_n 0, 1) := dw_at cX1_rankDegree_k0 (p := 10) rfl (by decide +kernel)
theorem dcX1_rankDegree_11 : decode cX1_rankDegree 11 = .ok (.getfield 12, 3) := dw_at cX1_rankDegree_k0 (p := 11) rfl (by decide +kernel)
theorem dcX1_rankDegree_14 : decode cX1_rankDegree 14 = .ok (.getfield 90, 3) := dw_at cX1_rankDegree_k0 (p := 14) rfl (by decide +kernel)
theorem dcX1_rankDegree_17 : decode cX1_rankDegree 17 = .ok (.if_icmp .gt 117, 3) := dw_at cX1_rankDegree_k0 (p := 17) rfl (by decide +kernel)
theorem dcX1_rankDegree_20 : decode cX1_rankDegree 20 = .ok (.iconst 0, 1) := dw_at cX1_rankDegree_k0 (p := 20) rfl (by decide +kernel)
theorem dcX1_rankDegree_21 : decode cX1_rankDegree 21 = .ok (.istore 4, 2) := dw_at cX1_rankDegree_k0 (p := 21) rfl (by decide +kernel)
theorem dcX1_rankDegree_23 : decode cX1_rankDegree 23 = .ok (.aload_n 0, 1) := dw_at cX1_rankDegree_k0 (p := 23) rfl (by decide +kernel)
theorem dcX1_rankDegree_24 : decode cX1_rankDegree 24 = .ok (.getfield 43, 3) := dw_at cX1_rankDegree_k1 (p := 0) rfl (by decide +kernel)
theorem dcX1_rankDegree_27 : decode cX1_rankDegree 27 = .ok (.iload_n 3, 1) := dw_at cX1_rankDegree_k1 (p := 3) rfl (by decide +kernel)
theorem dcX1_rankDegree_28 : decode cX1_rankDegree 28 = .ok (.iaload, 1) := dw_at cX1_rankDegree_k1 (p := 4) rfl (by decide +kernel)
theorem dcX1_rankDegree_29 : decode cX1_rankDegree 29 = .ok (.ifCond .le 21, 3) := dw_at cX1_rankDegree_k1 (p := 5) rfl (by decide +kernel)
theorem dcX1_rankDegree_32 : decode cX1_rankDegree 32 = .ok (.aload_n 0, 1) := dw_at cX1_rankDegree_k1 (p := 8) rfl (by decide +kernel)
theorem dcX1_rankDegree_33 : decode cX1_rankDegree 33 = .ok (.getfield 43, 3) := dw_at cX1_rankDegree_k1 (p := 9) rfl (by decide +kernel)
theorem dcX1_rankDegree_36 : decode cX1_rankDegree 36 = .ok (.iload_n 3, 1) := dw_at cX1_rankDegree_k1 (p := 12) rfl (by decide +kernel)
theorem dcX1_rankDegree_37 : decode cX1_rankDegree 37 = .ok (.iconst 1, 1) := dw_at cX1_rankDegree_k1 (p := 13) rfl (by decide +kernel)
theorem dcX1_rankDegree_38 : decode cX1_rankDegree 38 = .ok (.iadd, 1) := dw_at cX1_rankDegree_k1 (p := 14) rfl (by decide +kernel)
theorem dcX1_rankDegree_39 : decode cX1_rankDegree 39 = .ok (.iaload, 1) := dw_at cX1_rankDegree_k1 (p := 15) rfl (by decide +kernel)
theorem dcX1_rankDegree_40 : decode cX1_rankDegree 40 = .ok (.ifCond .le 10, 3) := dw_at cX1_rankDegree_k1 (p := 16) rfl (by decide +kernel)
theorem dcX1_rankDegree_43 : decode cX1_rankDegree 43 = .ok (.aload_n 0, 1) := dw_at cX1_rankDegree_k1 (p := 19) rfl (by decide +kernel)
theorem dcX1_rankDegree_44 : decode cX1_rankDegree 44 = .ok (.iload_n 3, 1) := dw_at cX1_rankDegree_k1 (p := 20) rfl (by decide +kernel)
theorem dcX1_rankDegree_45 : decode cX1_rankDegree 45 = .ok (.invokevirtual 157, 3) := dw_at cX1_rankDegree_k1 (p := 21) rfl (by decide +kernel)
theorem dcX1_rankDegree_48 : decode cX1_rankDegree 48 = .ok (.istore 4, 2) := dw_at cX1_rankDegree_k2 (p := 0) rfl (by decide +kernel)
theorem dcX1_rankDegree_50 : decode cX1_rankDegree 50 = .ok (.aload_n 0, 1) := dw_at cX1_rankDegree_k2 (p := 2) rfl (by decide +kernel)
theorem dcX1_rankDegree_51 : decode cX1_rankDegree 51 = .ok (.getfield 64, 3) := dw_at cX1_rankDegree_k2 (p := 3) rfl (by decide +kernel)
theorem dcX1_rankDegree_54 : decode cX1_rankDegree 54 = .ok (.iload_n 3, 1) := dw_at cX1_rankDegree_k2 (p := 6) rfl (by decide +kernel)
theorem dcX1_rankDegree_55 : decode cX1_rankDegree 55 = .ok (.bipush 56, 2) := dw_at cX1_rankDegree_k2 (p := 7) rfl (by decide +kernel)
theorem dcX1_rankDegree_57 : decode cX1_rankDegree 57 = .ok (.imul, 1) := dw_at cX1_rankDegree_k2 (p := 9) rfl (by decide +kernel)
theorem dcX1_rankDegree_58 : decode cX1_rankDegree 58 = .ok (.iload_n 1, 1) := dw_at cX1_rankDegree_k2 (p := 10) rfl (by decide +kernel)
theorem dcX1_rankDegree_59 : decode cX1_rankDegree 59 = .ok (.iadd, 1) := dw_at cX1_rankDegree_k2 (p := 11) rfl (by decide +kernel)
theorem dcX1_rankDegree_60 : decode cX1_rankDegree 60 = .ok (.bipush (-20), 2) := dw_at cX1_rankDegree_k2 (p := 12) rfl (by decide +kernel)
theorem dcX1_rankDegree_62 : decode cX1_rankDegree 62 = .ok (.isub, 1) := dw_at cX1_rankDegree_k2 (p := 14) rfl (by decide +kernel)
theorem dcX1_rankDegree_63 : decode cX1_rankDegree 63 = .ok (.aload_n 0, 1) := dw_at cX1_rankDegree_k2 (p := 15) rfl (by decide +kernel)
theorem dcX1_rankDegree_64 : decode cX1_rankDegree 64 = .ok (.getfield 43, 3) := dw_at cX1_rankDegree_k2 (p := 16) rfl (by decide +kernel)
theorem dcX1_rankDegree_67 : decode cX1_rankDegree 67 = .ok (.iload_n 3, 1) := dw_at cX1_rankDegree_k2 (p := 19) rfl (by decide +kernel)
theorem dcX1_rankDegree_68 : decode cX1_rankDegree 68 = .ok (.iaload, 1) := dw_at cX1_rankDegree_k2 (p := 20) rfl (by decide +kernel)
theorem dcX1_rankDegree_69 : decode cX1_rankDegree 69 = .ok (.iload 4, 2) := dw_at cX1_rankDegree_k2 (p := 21) rfl (by decide +kernel)
theorem dcX1_rankDegree_71 : decode cX1_rankDegree 71 = .ok (.isub, 1) := dw_at cX1_rankDegree_k2 (p := 23) rfl (by decide +kernel)
theorem dcX1_rankDegree_72 : decode cX1_rankDegree 72 = .ok (.iload_n 2, 1) := dw_at cX1_rankDegree_k3 (p := 0) rfl (by decide +kernel)
theorem dcX1_rankDegree_73 : decode cX1_rankDegree 73 = .ok (.isub, 1) := dw_at cX1_rankDegree_k3 (p := 1) rfl (by decide +kernel)
theorem dcX1_rankDegree_74 : decode cX1_rankDegree 74 = .ok (.iastore, 1) := dw_at cX1_rankDegree_k3 (p := 2) rfl (by decide +kernel)
theorem dcX1_rankDegree_75 : decode cX1_rankDegree 75 = .ok (.iload 4, 2) := dw_at cX1_rankDegree_k3 (p := 3) rfl (by decide +kernel)
theorem dcX1_rankDegree_77 : decode cX1_rankDegree 77 = .ok (.istore_n 2, 1) := dw_at cX1_rankDegree_k3 (p := 5) rfl (by decide +kernel)
theorem dcX1_rankDegree_78 : decode cX1_rankDegree 78 = .ok (.iconst 0, 1) := dw_at cX1_rankDegree_k3 (p := 6) rfl (by decide +kernel)
theorem dcX1_rankDegree_79 : decode cX1_rankDegree 79 = .ok (.istore 5, 2) := dw_at cX1_rankDegree_k3 (p := 7) rfl (by decide +kernel)
theorem dcX1_rankDegree_81 : decode cX1_rankDegree 81 = .ok (.iload 5, 2) := dw_at cX1_rankDegree_k3 (p := 9) rfl (by decide +kernel)
theorem dcX1_rankDegree_83 : decode cX1_rankDegree 83 = .ok (.aload_n 0, 1) := dw_at cX1_rankDegree_k3 (p := 11) rfl (by decide +kernel)
theorem dcX1_rankDegree_84 : decode cX1_rankDegree 84 = .ok (.getfield 43, 3) := dw_at cX1_rankDegree_k3 (p := 12) rfl (by decide +kernel)
theorem dcX1_rankDegree_87 : decode cX1_rankDegree 87 = .ok (.iload_n 3, 1) := dw_at cX1_rankDegree_k3 (p := 15) rfl (by decide +kernel)
theorem dcX1_rankDegree_88 : decode cX1_rankDegree 88 = .ok (.iconst 1, 1) := dw_at cX1_rankDegree_k3 (p := 16) rfl (by decide +kernel)
theorem dcX1_rankDegree_89 : decode cX1_rankDegree 89 = .ok (.iadd, 1) := dw_at cX1_rankDegree_k3 (p := 17) rfl (by decide +kernel)
theorem dcX1_rankDegree_90 : decode cX1_rankDegree 90 = .ok (.iaload, 1) := dw_at cX1_rankDegree_k3 (p := 18) rfl (by decide +kernel)
theorem dcX1_rankDegree_91 : decode cX1_rankDegree 91 = .ok (.if_icmp .ge 37, 3) := dw_at cX1_rankDegree_k3 (p := 19) rfl (by decide +kernel)
theorem dcX1_rankDegree_94 : decode cX1_rankDegree 94 = .ok (.aload_n 0, 1) := dw_at cX1_rankDegree_k3 (p := 22) rfl (by decide +kernel)
theorem dcX1_rankDegree_95 : decode cX1_rankDegree 95 = .ok (.getfield 55, 3) := dw_at cX1_rankDegree_k3 (p := 23) rfl (by decide +kernel)
theorem dcX1_rankDegree_98 : decode cX1_rankDegree 98 = .ok (.iload 5, 2) := dw_at cX1_rankDegree_k4 (p := 0) rfl (by decide +kernel)
theorem dcX1_rankDegree_100 : decode cX1_rankDegree 100 = .ok (.iload 4, 2) := dw_at cX1_rankDegree_k4 (p := 2) rfl (by decide +kernel)
theorem dcX1_rankDegree_102 : decode cX1_rankDegree 102 = .ok (.ifCond .le 18, 3) := dw_at cX1_rankDegree_k4 (p := 4) rfl (by decide +kernel)
theorem dcX1_rankDegree_105 : decode cX1_rankDegree 105 = .ok (.aload_n 0, 1) := dw_at cX1_rankDegree_k4 (p := 7) rfl (by decide +kernel)
theorem dcX1_rankDegree_106 : decode cX1_rankDegree 106 = .ok (.getfield 49, 3) := dw_at cX1_rankDegree_k4 (p := 8) rfl (by decide +kernel)
theorem dcX1_rankDegree_109 : decode cX1_rankDegree 109 = .ok (.iload 5, 2) := dw_at cX1_rankDegree_k4 (p := 11) rfl (by decide +kernel)
theorem dcX1_rankDegree_111 : decode cX1_rankDegree 111 = .ok (.iaload, 1) := dw_at cX1_rankDegree_k4 (p := 13) rfl (by decide +kernel)
theorem dcX1_rankDegree_112 : decode cX1_rankDegree 112 = .ok (.iconst (-1), 1) := dw_at cX1_rankDegree_k4 (p := 14) rfl (by decide +kernel)
theorem dcX1_rankDegree_113 : decode cX1_rankDegree 113 = .ok (.if_icmp .eq 7, 3) := dw_at cX1_rankDegree_k4 (p := 15) rfl (by decide +kernel)
theorem dcX1_rankDegree_116 : decode cX1_rankDegree 116 = .ok (.iconst 1, 1) := dw_at cX1_rankDegree_k4 (p := 18) rfl (by decide +kernel)
theorem dcX1_rankDegree_117 : decode cX1_rankDegree 117 = .ok (.goto 4, 3) := dw_at cX1_rankDegree_k4 (p := 19) rfl (by decide +kernel)
theorem dcX1_rankDegree_120 : decode cX1_rankDegree 120 = .ok (.iconst 0, 1) := dw_at cX1_rankDegree_k4 (p := 22) rfl (by decide +kernel)
theorem dcX1_rankDegree_121 : decode cX1_rankDegree 121 = .ok (.iastore, 1) := dw_at cX1_rankDegree_k4 (p := 23) rfl (by decide +kernel)
theorem dcX1_rankDegree_122 : decode cX1_rankDegree 122 = .ok (.iinc 5 1, 3) := dw_at cX1_rankDegree_k5 (p := 0) rfl (by decide +kernel)
theorem dcX1_rankDegree_125 : decode cX1_rankDegree 125 = .ok (.goto (-44), 3) := dw_at cX1_rankDegree_k5 (p := 3) rfl (by decide +kernel)
theorem dcX1_rankDegree_128 : decode cX1_rankDegree 128 = .ok (.iinc 3 1, 3) := dw_at cX1_rankDegree_k5 (p := 6) rfl (by decide +kernel)
theorem dcX1_rankDegree_131 : decode cX1_rankDegree 131 = .ok (.goto (-122), 3) := dw_at cX1_rankDegree_k5 (p := 9) rfl (by decide +kernel)
theorem dcX1_rankDegree_134 : decode cX1_rankDegree 134 = .ok (.return_, 1) := dw_at cX1_rankDegree_k5 (p := 12) rfl (by decide +kernel)
def dm_X1_rankDegree_0 (K : Nat) (go : Nat → Int32 → Int32 → Int32 → Int32 → Int32 → Nat → Int32 → Int32 → (Nat → Nat) → ow_MS → Option (Unit × (Nat → Nat) × ow_MS)) (x1 : Int32) (x2 : Int32) (x3 : Int32) (x4 : Int32) (x5 : Int32) (r0 : Nat) (t0 : Int32) (t1 : Int32) (vl : Nat → Nat) (z : ow_MS) : Option (Unit × (Nat → Nat) × ow_MS) :=
 dc1 (de_X1_layOut K r0 x1 vl z) fun v2 vl z1 => chV vl (go 1 x1 0 0 0 0 r0 0 0 vl z1)
def dm_X1_rankDegree_1 (K : Nat) (go : Nat → Int32 → Int32 → Int32 → Int32 → Int32 → Nat → Int32 → Int32 → (Nat → Nat) → ow_MS → Option (Unit × (Nat → Nat) × ow_MS)) (x1 : Int32) (x2 : Int32) (x3 : Int32) (x4 : Int32) (x5 : Int32) (r0 : Nat) (t0 : Int32) (t1 : Int32) (vl : Nat → Nat) (z : ow_MS) : Option (Unit × (Nat → Nat) × ow_MS) :=
 rdF z ((r0 + 1000) + 8) fun v4 => (if v4 < x3 then some ((), vl, z)
 else crI (cX vl) z (r0 + 9) x3 fun v5 => (if v5 ≤ 0 then go 2 x1 x2 x3 0 0 r0 0 0 vl z
 else crI (cX vl) z (r0 + 9) (x3 + 1) fun v6 => (if v6 ≤ 0 then go 2 x1 x2 x3 0 0 r0 0 0 vl z
 else dc1 (de_X1_eliminate K r0 x3 vl z) fun v8 vl z7 => chV vl (go 2 x1 x2 x3 v8 0 r0 0 0 vl z7))))
def dm_X1_rankDegree_2 (K : Nat) (go : Nat → Int32 → Int32 → Int32 → Int32 → Int32 → Nat → Int32 → Int32 → (Nat → Nat) → ow_MS → Option (Unit × (Nat → Nat) × ow_MS)) (x1 : Int32) (x2 : Int32) (x3 : Int32) (x4 : Int32) (x5 : Int32) (r0 : Nat) (t0 : Int32) (t1 : Int32) (vl : Nat → Nat) (z : ow_MS) : Option (Unit × (Nat → Nat) × ow_MS) :=
 crI (cX vl) z (r0 + 9) x3 fun v10 => ctI (cX vl) z (r0 + 18) (((x3 * 56) + x1) - (-20)) ((v10 - x4) - x2) fun z11 => go 3 x1 x4 x3 x4 0 r0 0 0 vl z11
def dm_X1_rankDegree_3 (K : Nat) (go : Nat → Int32 → Int32 → Int32 → Int32 → Int32 → Nat → Int32 → Int32 → (Nat → Nat) → ow_MS → Option (Unit × (Nat → Nat) × ow_MS)) (x1 : Int32) (x2 : Int32) (x3 : Int32) (x4 : Int32) (x5 : Int32) (r0 : Nat) (t0 : Int32) (t1 : Int32) (vl : Nat → Nat) (z : ow_MS) : Option (Unit × (Nat → Nat) × ow_MS) :=
 crI (cX vl) z (r0 + 9) (x3 + 1) fun v12 => (if v12 ≤ x5 then go 1 x1 x2 (x3 + 1) 0 0 r0 0 0 vl z
 else (if x4 ≤ 0 then go 4 x1 x2 x3 x4 x5 r0 x5 0 vl z
 else crI (cX vl) z (r0 + 12) x5 fun v13 => (if v13 = (-1) then go 4 x1 x2 x3 x4 x5 r0 x5 0 vl z
 else go 5 x1 x2 x3 x4 x5 r0 1 x5 vl z)))
def dm_X1_rankDegree_4 (K : Nat) (go : Nat → Int32 → Int32 → Int32 → Int32 → Int32 → Nat → Int32 → Int32 → (Nat → Nat) → ow_MS → Option (Unit × (Nat → Nat) × ow_MS)) (x1 : Int32) (x2 : Int32) (x3 : Int32) (x4 : Int32) (x5 : Int32) (r0 : Nat) (t0 : Int32) (t1 : Int32) (vl : Nat → Nat) (z : ow_MS) : Option (Unit × (Nat → Nat) × ow_MS) :=
 go 5 x1 x2 x3 x4 x5 r0 0 t0 vl z
def dm_X1_rankDegree_5 (K : Nat) (go : Nat → Int32 → Int32 → Int32 → Int32 → Int32 → Nat → Int32 → Int32 → (Nat → Nat) → ow_MS → Option (Unit × (Nat → Nat) × ow_MS)) (x1 : Int32) (x2 : Int32) (x3 : Int32) (x4 : Int32) (x5 : Int32) (r0 : Nat) (t0 : Int32) (t1 : Int32) (vl : Nat → Nat) (z : ow_MS) : Option (Unit × (Nat → Nat) × ow_MS) :=
 ctI (cX vl) z (r0 + 14) t1 t0 fun z14 => go 3 x1 x2 x3 x4 (x5 + 1) r0 0 0 vl z14
def db_X1_rankDegree (K : Nat) (go : Nat → Int32 → Int32 → Int32 → Int32 → Int32 → Nat → Int32 → Int32 → (Nat → Nat) → ow_MS → Option (Unit × (Nat → Nat) × ow_MS)) (L : Nat) (x1 : Int32) (x2 : Int32) (x3 : Int32) (x4 : Int32) (x5 : Int32) (r0 : Nat) (t0 : Int32) (t1 : Int32) (vl : Nat → Nat) (z : ow_MS) : Option (Unit × (Nat → Nat) × ow_MS) := match L with
  | 0 => chV vl (dm_X1_rankDegree_0 K go x1 x2 x3 x4 x5 r0 t0 t1 vl z)
  | 1 => chV vl (dm_X1_rankDegree_1 K go x1 x2 x3 x4 x5 r0 t0 t1 vl z)
  | 2 => chV vl (dm_X1_rankDegree_2 K go x1 x2 x3 x4 x5 r0 t0 t1 vl z)
  | 3 => chV vl (dm_X1_rankDegree_3 K go x1 x2 x3 x4 x5 r0 t0 t1 vl z)
  | 4 => chV vl (dm_X1_rankDegree_4 K go x1 x2 x3 x4 x5 r0 t0 t1 vl z)
  | 5 => chV vl (dm_X1_rankDegree_5 K go x1 x2 x3 x4 x5 r0 t0 t1 vl z)
  | _ => none
def d_X1_rankDegree (K : Nat) : Nat → Nat → Int32 → Int32 → Int32 → Int32 → Int32 → Nat → Int32 → Int32 → (Nat → Nat) → ow_MS → Option (Unit × (Nat → Nat) × ow_MS)
  | 0 => fun _ _ _ _ _ _ _ _ _ _ _ => none
  | k + 1 => db_X1_rankDegree K (d_X1_rankDegree K k)
def de_X1_rankDegree (K : Nat) (r0 : Nat) (x1 : Int32) (vl : Nat → Nat) (z : ow_MS) : Option (Unit × (Nat → Nat) × ow_MS) := d_X1_rankDegree K K 0 x1 0 0 0 0 r0 0 0 vl z
theorem dl_X1_rankDegree {K : Nat} {r0 : Nat} {x1 : Int32} {vl vlE : Nat → Nat} {z z1 : ow_MS} {r : Unit} (h : de_X1_rankDegree K r0 x1 vl z = some (r, vlE, z1)) : dPhi vl ≤ dPhi vlE := by
  cases K with
  | zero => exact cw_no h
  | succ k => exact (dd_ch (show chV vl (dm_X1_rankDegree_0 (k + 1) (d_X1_rankDegree (k + 1) k) x1 0 0 0 0 r0 0 0 vl z) = some (r, vlE, z1) from h)).1
abbrev wc_X1_rankDegree : List Cond := .code yX1_rankDegree cX1_rankDegree 6 none :: wD
theorem cdd_X1_rankDegree : yX1_rankDegree.cls = RX1 ∧ yX1_rankDegree.cls ≠ "java/lang/invoke/MethodHandle" ∧ yX1_rankDegree.cls ≠ "java/lang/invoke/VarHandle" ∧ (parseMethodDescriptor yX1_rankDegree.desc).map (fun d => d.parameters.length) = some 1 := by decide +kernel
set_option maxHeartbeats 4000000 in
set_option maxRecDepth 100000 in
theorem kd_X1_rankDegree (l : Launch) (D : va_G) (q : Nat → ClassId) (vl0 u0 : Nat → Nat) (hU0 : tw_inj (cX vl0) u0) (K : Nat) (r0 : Nat) (x1 : Int32) (hr0 : cw_X1 r0) (z z1 : ow_MS) (vlE : Nat → Nat) (r : Unit) (sz : Nat) (hq : de_X1_rankDegree K r0 x1 vl0 z = some (r, vlE, z1)) : Met l yX1_rankDegree wc_X1_rankDegree ({ frames := 5, cells := dca vl0 vlE, slots := dsl vl0 vlE, locals := 155 } : Room) (va_Pc [.ref (u0 r0), .int x1] (cw_preD D q vl0 u0 z sz)) (va_Qv (fun (u1 : Nat → Nat) => cd_U u0 u1 sz) (fun u1 t => va_P D vwCl (uw (cX vlE) q u1 z1) t.heap) (cd_A u0 sz)) (dca vl0 vlE) (dsl vl0 vlE) (cd_A u0 sz) := by
  refine Met.ofW (cc := cX1_rankDegree) (maxL := 6) (ret := none) (by decide) rfl ?_
  intro p e s m args below meth c s₁ B hml hv
  obtain ⟨rfl, rfl, hP, hK⟩ := hv
  have hx := B.exec
  have hb := B.bytes
  have hr := B.returns
  have hts := atoms_spec (ws := wc_X1_rankDegree) B.pre
  have hT : ∀ w ∈ wC, w.before ([.ref (u0 r0), .int x1] : List Value).toArray s = true := fun w h => hts w (List.mem_cons_of_mem _ (List.mem_cons_of_mem _ h))
  have hown : s.vm.findClass RX1 = some m.cls := findClass_of_methodNamed B.named
  have hlocks := B.notSynchronized
  have hA : ∀ q1 : Nat, s.heap.size ≤ q1 → cd_A u0 s.heap.size q1 := fun q1 h => Or.inr h
  have hU : uw_inj (cX vl0) u0 (cd_A u0 s.heap.size) := ⟨hU0, fun h hh => Or.inl ⟨h, hh, rfl⟩⟩
  have hM : uw_M D vwCl (cX vl0) q (cd_A u0 s.heap.size) s.heap u0 z s.heap [] := ⟨hP, va_S.rf⟩
  have hl := lv_entry ([.ref (u0 r0), .int x1]) (n := 6) (Nat.le_of_ble_eq_true rfl)
  rw [lg_entry_eq]
  generalize (lg_sl ([.ref (u0 r0), .int x1]) ++ List.replicate (6 - (lg_sl ([.ref (u0 r0), .int x1])).length) Slot.unset).toArray = ls at hl ⊢
  have hl : lv_has ls 6 [(0, .ref (u0 r0)), (1, .int x1)] := hl
  refine ow_named (fun QQ hQQ => ?_)
  generalize ([.ref (u0 r0), .int x1] : List Value).toArray = args at hts hT hQQ ⊢
  have key : ∀ k : Nat, (∀ (x1 : Int32) (x2 : Int32) (x3 : Int32) (x4 : Int32) (x5 : Int32) (r0 : Nat) (t0 : Int32) (t1 : Int32) (vl u : Nat → Nat) (z : ow_MS) (H : Heap) (locs : List Loc) (ls : Array Slot), cw_X1 r0 → uw_inj (cX vl) u (cd_A u0 s.heap.size) → (∀ h, h ∉ dynL → u h = u0 h) → dPhi vl0 ≤ dPhi vl → uw_M D vwCl (cX vl) q (cd_A u0 s.heap.size) s.heap u z H locs → lv_has ls 6 [(0, .ref (u r0)), (1, .int x1)] → d_X1_rankDegree K k 0 x1 x2 x3 x4 x5 r0 t0 t1 vl z = some (r, vlE, z1) → W p l e ({ frames := 5, cells := dca vl0 vlE, slots := dsl vl0 vlE, locals := 155 } : Room) s m args below meth c H locs (dca vl0 vl) (dsl vl0 vl) QQ (F0 m 0 ls [])) ∧ (∀ (x1 : Int32) (x2 : Int32) (x3 : Int32) (x4 : Int32) (x5 : Int32) (r0 : Nat) (t0 : Int32) (t1 : Int32) (vl u : Nat → Nat) (z : ow_MS) (H : Heap) (locs : List Loc) (ls : Array Slot), cw_X1 r0 → uw_inj (cX vl) u (cd_A u0 s.heap.size) → (∀ h, h ∉ dynL → u h = u0 h) → dPhi vl0 ≤ dPhi vl → uw_M D vwCl (cX vl) q (cd_A u0 s.heap.size) s.heap u z H locs → lv_has ls 6 [(0, .ref (u r0)), (1, .int x1), (2, .int x2), (3, .int x3)] → d_X1_rankDegree K k 1 x1 x2 x3 x4 x5 r0 t0 t1 vl z = some (r, vlE, z1) → W p l e ({ frames := 5, cells := dca vl0 vlE, slots := dsl vl0 vlE, locals := 155 } : Room) s m args below meth c H locs (dca vl0 vl) (dsl vl0 vl) QQ (F0 m 9 ls [])) ∧ (∀ (x1 : Int32) (x2 : Int32) (x3 : Int32) (x4 : Int32) (x5 : Int32) (r0 : Nat) (t0 : Int32) (t1 : Int32) (vl u : Nat → Nat) (z : ow_MS) (H : Heap) (locs : List Loc) (ls : Array Slot), cw_X1 r0 → uw_inj (cX vl) u (cd_A u0 s.heap.size) → (∀ h, h ∉ dynL → u h = u0 h) → dPhi vl0 ≤ dPhi vl → uw_M D vwCl (cX vl) q (cd_A u0 s.heap.size) s.heap u z H locs → lv_has ls 6 [(0, .ref (u r0)), (1, .int x1), (2, .int x2), (3, .int x3), (4, .int x4)] → d_X1_rankDegree K k 2 x1 x2 x3 x4 x5 r0 t0 t1 vl z = some (r, vlE, z1) → W p l e ({ frames := 5, cells := dca vl0 vlE, slots := dsl vl0 vlE, locals := 155 } : Room) s m args below meth c H locs (dca vl0 vl) (dsl vl0 vl) QQ (F0 m 50 ls [])) ∧ (∀ (x1 : Int32) (x2 : Int32) (x3 : Int32) (x4 : Int32) (x5 : Int32) (r0 : Nat) (t0 : Int32) (t1 : Int32) (vl u : Nat → Nat) (z : ow_MS) (H : Heap) (locs : List Loc) (ls : Array Slot), cw_X1 r0 → uw_inj (cX vl) u (cd_A u0 s.heap.size) → (∀ h, h ∉ dynL → u h = u0 h) → dPhi vl0 ≤ dPhi vl → uw_M D vwCl (cX vl) q (cd_A u0 s.heap.size) s.heap u z H locs → lv_has ls 6 [(0, .ref (u r0)), (1, .int x1), (2, .int x2), (3, .int x3), (4, .int x4), (5, .int x5)] → d_X1_rankDegree K k 3 x1 x2 x3 x4 x5 r0 t0 t1 vl z = some (r, vlE, z1) → W p l e ({ frames := 5, cells := dca vl0 vlE, slots := dsl vl0 vlE, locals := 155 } : Room) s m args below meth c H locs (dca vl0 vl) (dsl vl0 vl) QQ (F0 m 81 ls [])) ∧ (∀ (x1 : Int32) (x2 : Int32) (x3 : Int32) (x4 : Int32) (x5 : Int32) (r0 : Nat) (t0 : Int32) (t1 : Int32) (vl u : Nat → Nat) (z : ow_MS) (H : Heap) (locs : List Loc) (ls : Array Slot), cw_X1 r0 → uw_inj (cX vl) u (cd_A u0 s.heap.size) → (∀ h, h ∉ dynL → u h = u0 h) → dPhi vl0 ≤ dPhi vl → uw_M D vwCl (cX vl) q (cd_A u0 s.heap.size) s.heap u z H locs → lv_has ls 6 [(0, .ref (u r0)), (1, .int x1), (2, .int x2), (3, .int x3), (4, .int x4), (5, .int x5)] → d_X1_rankDegree K k 4 x1 x2 x3 x4 x5 r0 t0 t1 vl z = some (r, vlE, z1) → W p l e ({ frames := 5, cells := dca vl0 vlE, slots := dsl vl0 vlE, locals := 155 } : Room) s m args below meth c H locs (dca vl0 vl) (dsl vl0 vl) QQ (F0 m 120 ls [.int t0, .ref (u (r0 + 14))])) ∧ (∀ (x1 : Int32) (x2 : Int32) (x3 : Int32) (x4 : Int32) (x5 : Int32) (r0 : Nat) (t0 : Int32) (t1 : Int32) (vl u : Nat → Nat) (z : ow_MS) (H : Heap) (locs : List Loc) (ls : Array Slot), cw_X1 r0 → uw_inj (cX vl) u (cd_A u0 s.heap.size) → (∀ h, h ∉ dynL → u h = u0 h) → dPhi vl0 ≤ dPhi vl → uw_M D vwCl (cX vl) q (cd_A u0 s.heap.size) s.heap u z H locs → lv_has ls 6 [(0, .ref (u r0)), (1, .int x1), (2, .int x2), (3, .int x3), (4, .int x4), (5, .int x5)] → d_X1_rankDegree K k 5 x1 x2 x3 x4 x5 r0 t0 t1 vl z = some (r, vlE, z1) → W p l e ({ frames := 5, cells := dca vl0 vlE, slots := dsl vl0 vlE, locals := 155 } : Room) s m args below meth c H locs (dca vl0 vl) (dsl vl0 vl) QQ (F0 m 121 ls [.int t0, .int t1, .ref (u (r0 + 14))])) := by
    intro k
    induction k with
    | zero => exact ⟨fun _ _ _ _ _ _ _ _ _ _ _ _ _ _ _ _ _ _ _ _ hq => cw_no hq, fun _ _ _ _ _ _ _ _ _ _ _ _ _ _ _ _ _ _ _ _ hq => cw_no hq, fun _ _ _ _ _ _ _ _ _ _ _ _ _ _ _ _ _ _ _ _ hq => cw_no hq, fun _ _ _ _ _ _ _ _ _ _ _ _ _ _ _ _ _ _ _ _ hq => cw_no hq, fun _ _ _ _ _ _ _ _ _ _ _ _ _ _ _ _ _ _ _ _ hq => cw_no hq, fun _ _ _ _ _ _ _ _ _ _ _ _ _ _ _ _ _ _ _ _ hq => cw_no hq⟩
    | succ k ih =>
      obtain ⟨ih_0, ih_1, ih_2, ih_3, ih_4, ih_5⟩ := ih
      refine ⟨?_, ?_, ?_, ?_, ?_, ?_⟩
      · intro x1 x2 x3 x4 x5 r0 t0 t1 vl u z H locs ls hr0 hU hst h0 hM hl hq
        obtain ⟨hle, hq⟩ := dd_ch (show chV vl (dm_X1_rankDegree_0 K (d_X1_rankDegree K k) x1 x2 x3 x4 x5 r0 t0 t1 vl z) = some (r, vlE, z1) from hq)
        unfold dm_X1_rankDegree_0 at hq
        refine lv_aload_n hx hb dcX1_rankDegree_0 rfl (lv_at hl 0 rfl) ?_
        refine lv_iload_n hx hb dcX1_rankDegree_1 rfl (lv_at hl 1 rfl) ?_
        obtain ⟨v2, vm3, z1, hcq, hq⟩ := dd_dc1 hq
        obtain ⟨hle1, hq⟩ := dd_ch hq
        have hcl := dl_X1_layOut hcq
        refine dd_calv hA hU hM h0 hcl (va_runV (As := [.int x1]) (rest := []) ⟨hx, hb, hml, hown, hts⟩ (kd_X1_layOut l D q vl u hU.1 K r0 x1 hr0 z z1 vm3 v2 H.size hcq) (cwV 1 hts (tw_gV2 wD_good (fun _ h => h) (List.mem_cons_of_mem _ xq_201) (List.mem_cons_of_mem _ xq_202) (List.mem_cons_of_mem _ xq_203) (List.mem_cons_of_mem _ xq_138) (List.mem_cons_of_mem _ xq_204)) rfl rfl rfl cdd_X1_layOut ⟨(Nat.le_of_ble_eq_true rfl), (Nat.le_of_ble_eq_true rfl)⟩) (dd_preV hK hM (co_X1 hr0) rfl) rfl rfl hl.1 rfl (lv_room (Nat.le_of_ble_eq_true rfl)) dcX1_rankDegree_2 ⟨Nat.le_trans (dca_add h0 hcl) (dca_le hle1), Nat.le_trans (dsl_add h0 hcl) (dsl_le hle1)⟩) (fun u H locs hU hs1 hM => ?_)
        have h0 := Nat.le_trans h0 hcl
        have hle := hle1
        clear hle1
        have hl : lv_has ls 6 [(0, .ref (u r0)), (1, .int x1)] := by rw [hs1 r0 (ns_X1 hr0)]; exact hl
        have hst : ∀ h, h ∉ dynL → u h = u0 h := fun h hh => (hs1 h hh).trans (hst h hh)
        obtain ⟨vl, hvl⟩ : ∃ v, v = vm3 := ⟨_, rfl⟩
        rw [← hvl] at hU h0 hle hM hq ⊢
        refine lv_iconst (v := 0) hx hb dcX1_rankDegree_5 (by decide) ?_
        refine lv_istore_n (lv' := [(2, .int 0), (0, .ref (u r0)), (1, .int x1)]) hx hb dcX1_rankDegree_6 rfl hl (by decide) rfl (fun ls hl => ?_)
        refine lv_iconst (v := 0) hx hb dcX1_rankDegree_7 (by decide) ?_
        refine lv_istore_n (lv' := [(3, .int 0), (2, .int 0), (0, .ref (u r0)), (1, .int x1)]) hx hb dcX1_rankDegree_8 rfl hl (by decide) rfl (fun ls hl => ?_)
        exact ih_1 x1 0 0 0 0 r0 0 0 vl u z1 H locs ls hr0 hU hst h0 hM (lv_sub hl [2, 3, 1, 0] rfl) hq
      · intro x1 x2 x3 x4 x5 r0 t0 t1 vl u z H locs ls hr0 hU hst h0 hM hl hq
        obtain ⟨hle, hq⟩ := dd_ch (show chV vl (dm_X1_rankDegree_1 K (d_X1_rankDegree K k) x1 x2 x3 x4 x5 r0 t0 t1 vl z) = some (r, vlE, z1) from hq)
        unfold dm_X1_rankDegree_1 at hq
        refine lv_iload_n hx hb dcX1_rankDegree_9 rfl (lv_at hl 3 rfl) ?_
        refine lv_aload_n hx hb dcX1_rankDegree_10 rfl (lv_at hl 0 rfl) ?_
        refine vgX1_12 hx hb hT hown hK hM hr0 dcX1_rankDegree_11 ?_
        refine vgX1_90 hx hb hT hown hK hM (cs_X1_0 hr0) hq dcX1_rankDegree_14 (fun v4 hq => ?_)
        refine lv_icmp_gt (tgt := 134) hx hb dcX1_rankDegree_17 (by decide) (fun hc => ?_) (fun hc => ?_)
        · have hq := tw_it hq hc
          exact dd_vret hx hb hr hlocks hU hst hM hq hQQ dcX1_rankDegree_134
        · have hq := tw_if hq hc
          refine lv_iconst (v := 0) hx hb dcX1_rankDegree_20 (by decide) ?_
          refine lv_istore (lv' := [(4, .int 0), (0, .ref (u r0)), (1, .int x1), (2, .int x2), (3, .int x3)]) hx hb dcX1_rankDegree_21 hl (by decide) rfl (fun ls hl => ?_)
          refine lv_aload_n hx hb dcX1_rankDegree_23 rfl (lv_at hl 1 rfl) ?_
          refine vgX1_43 hx hb hT hown hK hM hr0 dcX1_rankDegree_24 ?_
          refine lv_iload_n hx hb dcX1_rankDegree_27 rfl (lv_at hl 4 rfl) ?_
          refine uw_iald cX_ok hx hb hK hM (cr_X1_8 hr0) hq dcX1_rankDegree_28 (fun v5 hq => ?_)
          refine lv_if_le (tgt := 50) hx hb dcX1_rankDegree_29 (by decide) (fun hc => ?_) (fun hc => ?_)
          · have hq := tw_it hq hc
            exact ih_2 x1 x2 x3 0 0 r0 0 0 vl u z H locs ls hr0 hU hst h0 hM (lv_sub hl [1, 2, 3, 4, 0] rfl) hq
          · have hq := tw_if hq hc
            refine lv_aload_n hx hb dcX1_rankDegree_32 rfl (lv_at hl 1 rfl) ?_
            refine vgX1_43 hx hb hT hown hK hM hr0 dcX1_rankDegree_33 ?_
            refine lv_iload_n hx hb dcX1_rankDegree_36 rfl (lv_at hl 4 rfl) ?_
            refine lv_iconst (v := 1) hx hb dcX1_rankDegree_37 (by decide) ?_
            refine lv_iadd hx hb dcX1_rankDegree_38 ?_
            refine uw_iald cX_ok hx hb hK hM (cr_X1_8 hr0) hq dcX1_rankDegree_39 (fun v6 hq => ?_)
            refine lv_if_le (tgt := 50) hx hb dcX1_rankDegree_40 (by decide) (fun hc => ?_) (fun hc => ?_)
            · have hq := tw_it hq hc
              exact ih_2 x1 x2 x3 0 0 r0 0 0 vl u z H locs ls hr0 hU hst h0 hM (lv_sub hl [1, 2, 3, 4, 0] rfl) hq
            · have hq := tw_if hq hc
              refine lv_aload_n hx hb dcX1_rankDegree_43 rfl (lv_at hl 1 rfl) ?_
              refine lv_iload_n hx hb dcX1_rankDegree_44 rfl (lv_at hl 4 rfl) ?_
              obtain ⟨v8, vm9, z7, hcq, hq⟩ := dd_dc1 hq
              obtain ⟨hle1, hq⟩ := dd_ch hq
              have hcl := dl_X1_eliminate hcq
              refine dd_cali hA hU hM h0 hcl (va_runV (As := [.int x3]) (rest := []) ⟨hx, hb, hml, hown, hts⟩ (kd_X1_eliminate l D q vl u hU.1 K r0 x3 hr0 z z7 vm9 v8 H.size hcq) (cwV 1 hts (tw_gV2 wD_good (fun _ h => h) (List.mem_cons_of_mem _ xq_215) (List.mem_cons_of_mem _ xq_216) (List.mem_cons_of_mem _ xq_217) (List.mem_cons_of_mem _ xq_138) (List.mem_cons_of_mem _ xq_218)) rfl rfl rfl cdd_X1_eliminate ⟨(Nat.le_of_ble_eq_true rfl), (Nat.le_of_ble_eq_true rfl)⟩) (dd_preV hK hM (co_X1 hr0) rfl) rfl rfl hl.1 rfl (lv_room (Nat.le_of_ble_eq_true rfl)) dcX1_rankDegree_45 ⟨Nat.le_trans (dca_add h0 hcl) (dca_le hle1), Nat.le_trans (dsl_add h0 hcl) (dsl_le hle1)⟩) (fun u H locs hU hs1 hM => ?_)
              have h0 := Nat.le_trans h0 hcl
              have hle := hle1
              clear hle1
              have hl : lv_has ls 6 [(4, .int 0), (0, .ref (u r0)), (1, .int x1), (2, .int x2), (3, .int x3)] := by rw [hs1 r0 (ns_X1 hr0)]; exact hl
              have hst : ∀ h, h ∉ dynL → u h = u0 h := fun h hh => (hs1 h hh).trans (hst h hh)
              obtain ⟨vl, hvl⟩ : ∃ v, v = vm9 := ⟨_, rfl⟩
              rw [← hvl] at hU h0 hle hM hq ⊢
              refine lv_istore (lv' := [(4, .int v8), (0, .ref (u r0)), (1, .int x1), (2, .int x2), (3, .int x3)]) hx hb dcX1_rankDegree_48 hl (by decide) rfl (fun ls hl => ?_)
              exact ih_2 x1 x2 x3 v8 0 r0 0 0 vl u z7 H locs ls hr0 hU hst h0 hM (lv_sub hl [1, 2, 3, 4, 0] rfl) hq
      · intro x1 x2 x3 x4 x5 r0 t0 t1 vl u z H locs ls hr0 hU hst h0 hM hl hq
        obtain ⟨hle, hq⟩ := dd_ch (show chV vl (dm_X1_rankDegree_2 K (d_X1_rankDegree K k) x1 x2 x3 x4 x5 r0 t0 t1 vl z) = some (r, vlE, z1) from hq)
        unfold dm_X1_rankDegree_2 at hq
        refine lv_aload_n hx hb dcX1_rankDegree_50 rfl (lv_at hl 0 rfl) ?_
        refine vgX1_64 hx hb hT hown hK hM hr0 dcX1_rankDegree_51 ?_
        refine lv_iload_n hx hb dcX1_rankDegree_54 rfl (lv_at hl 3 rfl) ?_
        refine lv_bipush (v := 56) hx hb dcX1_rankDegree_55 (by decide) ?_
        refine lv_imul hx hb dcX1_rankDegree_57 ?_
        refine lv_iload_n hx hb dcX1_rankDegree_58 rfl (lv_at hl 1 rfl) ?_
        refine lv_iadd hx hb dcX1_rankDegree_59 ?_
        refine lv_bipush (v := (-20)) hx hb dcX1_rankDegree_60 (by decide) ?_
        refine lv_isub hx hb dcX1_rankDegree_62 ?_
        refine lv_aload_n hx hb dcX1_rankDegree_63 rfl (lv_at hl 0 rfl) ?_
        refine vgX1_43 hx hb hT hown hK hM hr0 dcX1_rankDegree_64 ?_
        refine lv_iload_n hx hb dcX1_rankDegree_67 rfl (lv_at hl 3 rfl) ?_
        refine uw_iald cX_ok hx hb hK hM (cr_X1_8 hr0) hq dcX1_rankDegree_68 (fun v10 hq => ?_)
        refine lv_iload hx hb dcX1_rankDegree_69 (lv_at hl 4 rfl) ?_
        refine lv_isub hx hb dcX1_rankDegree_71 ?_
        refine lv_iload_n hx hb dcX1_rankDegree_72 rfl (lv_at hl 2 rfl) ?_
        refine lv_isub hx hb dcX1_rankDegree_73 ?_
        refine uw_iast cX_ok hU hx hb hK hM (cr_X1_17 hr0) hq dcX1_rankDegree_74 (fun z11 H locs hM hq => ?_)
        refine lv_iload hx hb dcX1_rankDegree_75 (lv_at hl 4 rfl) ?_
        refine lv_istore_n (lv' := [(2, .int x4), (0, .ref (u r0)), (1, .int x1), (3, .int x3), (4, .int x4)]) hx hb dcX1_rankDegree_77 rfl hl (by decide) rfl (fun ls hl => ?_)
        refine lv_iconst (v := 0) hx hb dcX1_rankDegree_78 (by decide) ?_
        refine lv_istore (lv' := [(5, .int 0), (2, .int x4), (0, .ref (u r0)), (1, .int x1), (3, .int x3), (4, .int x4)]) hx hb dcX1_rankDegree_79 hl (by decide) rfl (fun ls hl => ?_)
        exact ih_3 x1 x4 x3 x4 0 r0 0 0 vl u z11 H locs ls hr0 hU hst h0 hM (lv_sub hl [2, 3, 1, 4, 5, 0] rfl) hq
      · intro x1 x2 x3 x4 x5 r0 t0 t1 vl u z H locs ls hr0 hU hst h0 hM hl hq
        obtain ⟨hle, hq⟩ := dd_ch (show chV vl (dm_X1_rankDegree_3 K (d_X1_rankDegree K k) x1 x2 x3 x4 x5 r0 t0 t1 vl z) = some (r, vlE, z1) from hq)
        unfold dm_X1_rankDegree_3 at hq
        refine lv_iload hx hb dcX1_rankDegree_81 (lv_at hl 5 rfl) ?_
        refine lv_aload_n hx hb dcX1_rankDegree_83 rfl (lv_at hl 0 rfl) ?_
        refine vgX1_43 hx hb hT hown hK hM hr0 dcX1_rankDegree_84 ?_
        refine lv_iload_n hx hb dcX1_rankDegree_87 rfl (lv_at hl 3 rfl) ?_
        refine lv_iconst (v := 1) hx hb dcX1_rankDegree_88 (by decide) ?_
        refine lv_iadd hx hb dcX1_rankDegree_89 ?_
        refine uw_iald cX_ok hx hb hK hM (cr_X1_8 hr0) hq dcX1_rankDegree_90 (fun v12 hq => ?_)
        refine lv_icmp_ge (tgt := 128) hx hb dcX1_rankDegree_91 (by decide) (fun hc => ?_) (fun hc => ?_)
        · have hq := tw_it hq hc
          refine lv_iinc (v := (x3 + 1)) (lv' := [(3, .int (x3 + 1)), (0, .ref (u r0)), (1, .int x1), (2, .int x2), (4, .int x4), (5, .int x5)]) hx hb dcX1_rankDegree_128 hl (k := 3) rfl rfl (by decide) rfl (fun ls hl => ?_)
          refine lv_goto (tgt := 9) hx hb dcX1_rankDegree_131 (by decide) ?_
          exact ih_1 x1 x2 (x3 + 1) 0 0 r0 0 0 vl u z H locs ls hr0 hU hst h0 hM (lv_sub hl [1, 2, 3, 0] rfl) hq
        · have hq := tw_if hq hc
          refine lv_aload_n hx hb dcX1_rankDegree_94 rfl (lv_at hl 0 rfl) ?_
          refine vgX1_55 hx hb hT hown hK hM hr0 dcX1_rankDegree_95 ?_
          refine lv_iload hx hb dcX1_rankDegree_98 (lv_at hl 5 rfl) ?_
          refine lv_iload hx hb dcX1_rankDegree_100 (lv_at hl 4 rfl) ?_
          refine lv_if_le (tgt := 120) hx hb dcX1_rankDegree_102 (by decide) (fun hc => ?_) (fun hc => ?_)
          · have hq := tw_it hq hc
            exact ih_4 x1 x2 x3 x4 x5 r0 x5 0 vl u z H locs ls hr0 hU hst h0 hM (lv_sub hl [0, 1, 2, 3, 4, 5] rfl) hq
          · have hq := tw_if hq hc
            refine lv_aload_n hx hb dcX1_rankDegree_105 rfl (lv_at hl 0 rfl) ?_
            refine vgX1_49 hx hb hT hown hK hM hr0 dcX1_rankDegree_106 ?_
            refine lv_iload hx hb dcX1_rankDegree_109 (lv_at hl 5 rfl) ?_
            refine uw_iald cX_ok hx hb hK hM (cr_X1_11 hr0) hq dcX1_rankDegree_111 (fun v13 hq => ?_)
            refine lv_iconst (v := (-1)) hx hb dcX1_rankDegree_112 (by decide) ?_
            refine lv_icmp_eq (tgt := 120) hx hb dcX1_rankDegree_113 (by decide) (fun hc => ?_) (fun hc => ?_)
            · have hq := tw_it hq hc
              exact ih_4 x1 x2 x3 x4 x5 r0 x5 0 vl u z H locs ls hr0 hU hst h0 hM (lv_sub hl [0, 1, 2, 3, 4, 5] rfl) hq
            · have hq := tw_if hq hc
              refine lv_iconst (v := 1) hx hb dcX1_rankDegree_116 (by decide) ?_
              refine lv_goto (tgt := 121) hx hb dcX1_rankDegree_117 (by decide) ?_
              exact ih_5 x1 x2 x3 x4 x5 r0 1 x5 vl u z H locs ls hr0 hU hst h0 hM (lv_sub hl [0, 1, 2, 3, 4, 5] rfl) hq
      · intro x1 x2 x3 x4 x5 r0 t0 t1 vl u z H locs ls hr0 hU hst h0 hM hl hq
        obtain ⟨hle, hq⟩ := dd_ch (show chV vl (dm_X1_rankDegree_4 K (d_X1_rankDegree K k) x1 x2 x3 x4 x5 r0 t0 t1 vl z) = some (r, vlE, z1) from hq)
        unfold dm_X1_rankDegree_4 at hq
        refine lv_iconst (v := 0) hx hb dcX1_rankDegree_120 (by decide) ?_
        exact ih_5 x1 x2 x3 x4 x5 r0 0 t0 vl u z H locs ls hr0 hU hst h0 hM (lv_sub hl [0, 1, 2, 3, 4, 5] rfl) hq
      · intro x1 x2 x3 x4 x5 r0 t0 t1 vl u z H locs ls hr0 hU hst h0 hM hl hq
        obtain ⟨hle, hq⟩ := dd_ch (show chV vl (dm_X1_rankDegree_5 K (d_X1_rankDegree K k) x1 x2 x3 x4 x5 r0 t0 t1 vl z) = some (r, vlE, z1) from hq)
        unfold dm_X1_rankDegree_5 at hq
        refine uw_iast cX_ok hU hx hb hK hM (cr_X1_13 hr0) hq dcX1_rankDegree_121 (fun z14 H locs hM hq => ?_)
        refine lv_iinc (v := (x5 + 1)) (lv' := [(5, .int (x5 + 1)), (0, .ref (u r0)), (1, .int x1), (2, .int x2), (3, .int x3), (4, .int x4)]) hx hb dcX1_rankDegree_122 hl (k := 5) rfl rfl (by decide) rfl (fun ls hl => ?_)
        refine lv_goto (tgt := 81) hx hb dcX1_rankDegree_125 (by decide) ?_
        exact ih_3 x1 x2 x3 x4 (x5 + 1) r0 0 0 vl u z14 H locs ls hr0 hU hst h0 hM (lv_sub hl [1, 2, 3, 4, 5, 0] rfl) hq
  refine W.widen (k := dca vl0 vl0) (n := dsl vl0 vl0) (Nat.zero_le _) (Nat.zero_le _) ?_
  exact (key K).1 x1 0 0 0 0 r0 0 0 vl0 u0 z s.heap [] ls hr0 hU (fun _ _ => rfl) (Nat.le_refl _) hM (lv_sub hl [0, 1] rfl) hq
theorem dcX1_compute_0 : decode cX1_compute 0 = .ok (.aload_n 0, 1) := dw_at cX1_compute_k0 (p := 0) rfl (by decide +kernel)
theorem dcX1_compute_1 : decode cX1_compute 1 = .ok (.getfield 12, 3) := dw_at cX1_compute_k0 (p := 1) rfl (by decide +kernel)
theorem dcX1_compute_4 : decode cX1_compute 4 = .ok (.aload_n 1, 1) := dw_at cX1_compute_k0 (p := 4) rfl (by decide +kernel)
theorem dcX1_compute_5 : decode cX1_compute 5 = .ok (.invokevirtual 73, 3) := dw_at cX1_compute_k0 (p := 5) rfl (by decide +kernel)
theorem dcX1_compute_8 : decode cX1_compute 8 = .ok (.aload_n 0, 1) := dw_at cX1_compute_k0 (p := 8) rfl (by decide +kernel)
theorem dcX1_compute_9 : decode cX1_compute 9 = .ok (.invokevirtual 77, 3) := dw_at cX1_compute_k0 (p := 9) rfl (by decide +kernel)
theorem dcX1_compute_12 : decode cX1_compute 12 = .ok (.aload_n 0, 1) := dw_at cX1_compute_k0 (p := 12) rfl (by decide +kernel)
theorem dcX1_compute_13 : decode cX1_compute 13 = .ok (.iload_n 2, 1) := dw_at cX1_compute_k0 (p := 13) rfl (by decide +kernel)
theorem dcX1_compute_14 : decode cX1_compute 14 = .ok (.putfield 80, 3) := dw_at cX1_compute_k0 (p := 14) rfl (by decide +kernel)
theorem dcX1_compute_17 : decode cX1_compute 17 = .ok (.aload_n 0, 1) := dw_at cX1_compute_k0 (p := 17) rfl (by decide +kernel)
theorem dcX1_compute_18 : decode cX1_compute 18 = .ok (.aload_n 0, 1) := dw_at cX1_compute_k0 (p := 18) rfl (by decide +kernel)
theorem dcX1_compute_19 : decode cX1_compute 19 = .ok (.getfield 12, 3) := dw_at cX1_compute_k0 (p := 19) rfl (by decide +kernel)
theorem dcX1_compute_22 : decode cX1_compute 22 = .ok (.invokevirtual 84, 3) := dw_at cX1_compute_k0 (p := 22) rfl (by decide +kernel)
theorem dcX1_compute_25 : decode cX1_compute 25 = .ok (.putfield 88, 3) := dw_at cX1_compute_k1 (p := 0) rfl (by decide +kernel)
theorem dcX1_compute_28 : decode cX1_compute 28 = .ok (.aload_n 0, 1) := dw_at cX1_compute_k1 (p := 3) rfl (by decide +kernel)
theorem dcX1_compute_29 : decode cX1_compute 29 = .ok (.aload_n 0, 1) := dw_at cX1_compute_k1 (p := 4) rfl (by decide +kernel)
theorem dcX1_compute_30 : decode cX1_compute 30 = .ok (.getfield 12, 3) := dw_at cX1_compute_k1 (p := 5) rfl (by decide +kernel)
theorem dcX1_compute_33 : decode cX1_compute 33 = .ok (.getfield 90, 3) := dw_at cX1_compute_k1 (p := 8) rfl (by decide +kernel)
theorem dcX1_compute_36 : decode cX1_compute 36 = .ok (.aload_n 0, 1) := dw_at cX1_compute_k1 (p := 11) rfl (by decide +kernel)
theorem dcX1_compute_37 : decode cX1_compute 37 = .ok (.getfield 88, 3) := dw_at cX1_compute_k1 (p := 12) rfl (by decide +kernel)
theorem dcX1_compute_40 : decode cX1_compute 40 = .ok (.isub, 1) := dw_at cX1_compute_k1 (p := 15) rfl (by decide +kernel)
theorem dcX1_compute_41 : decode cX1_compute 41 = .ok (.iconst 2, 1) := dw_at cX1_compute_k1 (p := 16) rfl (by decide +kernel)
theorem dcX1_compute_42 : decode cX1_compute 42 = .ok (.idiv, 1) := dw_at cX1_compute_k1 (p := 17) rfl (by decide +kernel)
theorem dcX1_compute_43 : decode cX1_compute 43 = .ok (.putfield 93, 3) := dw_at cX1_compute_k1 (p := 18) rfl (by decide +kernel)
theorem dcX1_compute_46 : decode cX1_compute 46 = .ok (.aload_n 0, 1) := dw_at cX1_compute_k1 (p := 21) rfl (by decide +kernel)
theorem dcX1_compute_47 : decode cX1_compute 47 = .ok (.invokevirtual 96, 3) := dw_at cX1_compute_k1 (p := 22) rfl (by decide +kernel)
theorem dcX1_compute_50 : decode cX1_compute 50 = .ok (.aload_n 0, 1) := dw_at cX1_compute_k2 (p := 0) rfl (by decide +kernel)
theorem dcX1_compute_51 : decode cX1_compute 51 = .ok (.getfield 64, 3) := dw_at cX1_compute_k2 (p := 1) rfl (by decide +kernel)
theorem dcX1_compute_54 : decode cX1_compute 54 = .ok (.iconst 0, 1) := dw_at cX1_compute_k2 (p := 4) rfl (by decide +kernel)
theorem dcX1_compute_55 : decode cX1_compute 55 = .ok (.invokestatic 99, 3) := dw_at cX1_compute_k2 (p := 5) rfl (by decide +kernel)
theorem dcX1_compute_58 : decode cX1_compute 58 = .ok (.bipush (-10), 2) := dw_at cX1_compute_k2 (p := 8) rfl (by decide +kernel)
theorem dcX1_compute_60 : decode cX1_compute 60 = .ok (.istore_n 3, 1) := dw_at cX1_compute_k2 (p := 10) rfl (by decide +kernel)
theorem dcX1_compute_61 : decode cX1_compute 61 = .ok (.iload_n 3, 1) := dw_at cX1_compute_k2 (p := 11) rfl (by decide +kernel)
theorem dcX1_compute_62 : decode cX1_compute 62 = .ok (.bipush 18, 2) := dw_at cX1_compute_k2 (p := 12) rfl (by decide +kernel)
theorem dcX1_compute_64 : decode cX1_compute 64 = .ok (.if_icmp .gt 14, 3) := dw_at cX1_compute_k2 (p := 14) rfl (by decide +kernel)
theorem dcX1_compute_67 : decode cX1_compute 67 = .ok (.aload_n 0, 1) := dw_at cX1_compute_k2 (p := 17) rfl (by decide +kernel)
theorem dcX1_compute_68 : decode cX1_compute 68 = .ok (.iload_n 3, 1) := dw_at cX1_compute_k2 (p := 18) rfl (by decide +kernel)
theorem dcX1_compute_69 : decode cX1_compute 69 = .ok (.invokevirtual 105, 3) := dw_at cX1_compute_k2 (p := 19) rfl (by decide +kernel)
theorem dcX1_compute_72 : decode cX1_compute 72 = .ok (.iinc 3 1, 3) := dw_at cX1_compute_k2 (p := 22) rfl (by decide +kernel)
theorem dcX1_compute_75 : decode cX1_compute 75 = .ok (.goto (-14), 3) := dw_at cX1_compute_k3 (p := 0) rfl (by decide +kernel)
theorem dcX1_compute_78 : decode cX1_compute 78 = .ok (.iconst 0, 1) := dw_at cX1_compute_k3 (p := 3) rfl (by decide +kernel)
theorem dcX1_compute_79 : decode cX1_compute 79 = .ok (.istore_n 3, 1) := dw_at cX1_compute_k3 (p := 4) rfl (by decide +kernel)
theorem dcX1_compute_80 : decode cX1_compute 80 = .ok (.iload_n 3, 1) := dw_at cX1_compute_k3 (p := 5) rfl (by decide +kernel)
theorem dcX1_compute_81 : decode cX1_compute 81 = .ok (.aload_n 0, 1) := dw_at cX1_compute_k3 (p := 6) rfl (by decide +kernel)
theorem dcX1_compute_82 : decode cX1_compute 82 = .ok (.getfield 12, 3) := dw_at cX1_compute_k3 (p := 7) rfl (by decide +kernel)
theorem dcX1_compute_85 : decode cX1_compute 85 = .ok (.getfield 109, 3) := dw_at cX1_compute_k3 (p := 10) rfl (by decide +kernel)
theorem dcX1_compute_88 : decode cX1_compute 88 = .ok (.if_icmp .ge 13, 3) := dw_at cX1_compute_k3 (p := 13) rfl (by decide +kernel)
theorem dcX1_compute_91 : decode cX1_compute 91 = .ok (.aload_n 0, 1) := dw_at cX1_compute_k3 (p := 16) rfl (by decide +kernel)
theorem dcX1_compute_92 : decode cX1_compute 92 = .ok (.invokevirtual 112, 3) := dw_at cX1_compute_k3 (p := 17) rfl (by decide +kernel)
theorem dcX1_compute_95 : decode cX1_compute 95 = .ok (.iinc 3 1, 3) := dw_at cX1_compute_k3 (p := 20) rfl (by decide +kernel)
theorem dcX1_compute_98 : decode cX1_compute 98 = .ok (.goto (-18), 3) := dw_at cX1_compute_k3 (p := 23) rfl (by decide +kernel)
theorem dcX1_compute_101 : decode cX1_compute 101 = .ok (.iconst 0, 1) := dw_at cX1_compute_k4 (p := 0) rfl (by decide +kernel)
theorem dcX1_compute_102 : decode cX1_compute 102 = .ok (.istore_n 3, 1) := dw_at cX1_compute_k4 (p := 1) rfl (by decide +kernel)
theorem dcX1_compute_103 : decode cX1_compute 103 = .ok (.iconst 0, 1) := dw_at cX1_compute_k4 (p := 2) rfl (by decide +kernel)
theorem dcX1_compute_104 : decode cX1_compute 104 = .ok (.istore 4, 2) := dw_at cX1_compute_k4 (p := 3) rfl (by decide +kernel)
theorem dcX1_compute_106 : decode cX1_compute 106 = .ok (.iload 4, 2) := dw_at cX1_compute_k4 (p := 5) rfl (by decide +kernel)
theorem dcX1_compute_108 : decode cX1_compute 108 = .ok (.aload_n 0, 1) := dw_at cX1_compute_k4 (p := 7) rfl (by decide +kernel)
theorem dcX1_compute_109 : decode cX1_compute 109 = .ok (.getfield 64, 3) := dw_at cX1_compute_k4 (p := 8) rfl (by decide +kernel)
theorem dcX1_compute_112 : decode cX1_compute 112 = .ok (.arraylength, 1) := dw_at cX1_compute_k4 (p := 11) rfl (by decide +kernel)
theorem dcX1_compute_113 : decode cX1_compute 113 = .ok (.if_icmp .ge 19, 3) := dw_at cX1_compute_k4 (p := 12) rfl (by decide +kernel)
theorem dcX1_compute_116 : decode cX1_compute 116 = .ok (.iload_n 3, 1) := dw_at cX1_compute_k4 (p := 15) rfl (by decide +kernel)
theorem dcX1_compute_117 : decode cX1_compute 117 = .ok (.aload_n 0, 1) := dw_at cX1_compute_k4 (p := 16) rfl (by decide +kernel)
theorem dcX1_compute_118 : decode cX1_compute 118 = .ok (.getfield 64, 3) := dw_at cX1_compute_k4 (p := 17) rfl (by decide +kernel)
theorem dcX1_compute_121 : decode cX1_compute 121 = .ok (.iload 4, 2) := dw_at cX1_compute_k4 (p := 20) rfl (by decide +kernel)
theorem dcX1_compute_123 : decode cX1_compute 123 = .ok (.iaload, 1) := dw_at cX1_compute_k4 (p := 22) rfl (by decide +kernel)
theorem dcX1_compute_124 : decode cX1_compute 124 = .ok (.iadd, 1) := dw_at cX1_compute_k4 (p := 23) rfl (by decide +kernel)
theorem dcX1_compute_125 : decode cX1_compute 125 = .ok (.istore_n 3, 1) := dw_at cX1_compute_k5 (p := 0) rfl (by decide +kernel)
theorem dcX1_compute_126 : decode cX1_compute 126 = .ok (.iinc 4 1, 3) := dw_at cX1_compute_k5 (p := 1) rfl (by decide +kernel)
theorem dcX1_compute_129 : decode cX1_compute 129 = .ok (.goto (-23), 3) := dw_at cX1_compute_k5 (p := 4) rfl (by decide +kernel)
theorem dcX1_compute_132 : decode cX1_compute 132 = .ok (.iload_n 3, 1) := dw_at cX1_compute_k5 (p := 7) rfl (by decide +kernel)
theorem dcX1_compute_133 : decode cX1_compute 133 = .ok (.ireturn, 1) := dw_at cX1_compute_k5 (p := 8) rfl (by decide +kernel)
def dm_X1_compute_0 (K : Nat) (go : Nat → Int32 → Int32 → Int32 → Nat → Nat → (Nat → Nat) → ow_MS → Option (Int32 × (Nat → Nat) × ow_MS)) (x2 : Int32) (x3 : Int32) (x4 : Int32) (r0 : Nat) (r1 : Nat) (vl : Nat → Nat) (z : ow_MS) : Option (Int32 × (Nat → Nat) × ow_MS) :=
 cs0 (ce_X7_copy vl K (r0 + 1000) r1 z) fun z1 => cs0 (ce_X1_tidy vl K r0 z1) fun z2 => wrF z2 (r0 + 10) x2 fun z3 => cs1 (ce_X7_writhe vl K (r0 + 1000) z3) fun v5 z4 => wrF z4 (r0 + 19) v5 fun z6 => rdF z6 ((r0 + 1000) + 8) fun v7 => rdF z6 (r0 + 19) fun v8 => nzI 2 (wrF z6 (r0 + 20) ((v7 - v8) / 2) fun z9 => cs0 (ce_X1_markLoops vl K r0 z9) fun z10 => cs0 (ce_J7_fill_53178 vl K (r0 + 18) 0 z10) fun z11 => go 1 x2 (-10) 0 r0 r1 vl z11)
def dm_X1_compute_1 (K : Nat) (go : Nat → Int32 → Int32 → Int32 → Nat → Nat → (Nat → Nat) → ow_MS → Option (Int32 × (Nat → Nat) × ow_MS)) (x2 : Int32) (x3 : Int32) (x4 : Int32) (r0 : Nat) (r1 : Nat) (vl : Nat → Nat) (z : ow_MS) : Option (Int32 × (Nat → Nat) × ow_MS) :=
 (if 18 < x3 then go 2 x2 0 0 r0 r1 vl z
 else dc1 (de_X1_rankDegree K r0 x3 vl z) fun v13 vl z12 => chV vl (go 1 x2 (x3 + 1) 0 r0 r1 vl z12))
def dm_X1_compute_2 (K : Nat) (go : Nat → Int32 → Int32 → Int32 → Nat → Nat → (Nat → Nat) → ow_MS → Option (Int32 × (Nat → Nat) × ow_MS)) (x2 : Int32) (x3 : Int32) (x4 : Int32) (r0 : Nat) (r1 : Nat) (vl : Nat → Nat) (z : ow_MS) : Option (Int32 × (Nat → Nat) × ow_MS) :=
 rdF z ((r0 + 1000) + 9) fun v15 => (if v15 ≤ x3 then go 3 x2 0 0 r0 r1 vl z
 else cs0 (ce_X1_addCircle vl K r0 z) fun z16 => go 2 x2 (x3 + 1) 0 r0 r1 vl z16)
def dm_X1_compute_3 (K : Nat) (go : Nat → Int32 → Int32 → Int32 → Nat → Nat → (Nat → Nat) → ow_MS → Option (Int32 × (Nat → Nat) × ow_MS)) (x2 : Int32) (x3 : Int32) (x4 : Int32) (r0 : Nat) (r1 : Nat) (vl : Nat → Nat) (z : ow_MS) : Option (Int32 × (Nat → Nat) × ow_MS) :=
 (if (Int32.ofNat (uw_len (cX vl) z (r0 + 18))) ≤ x4 then some (x3, vl, z)
 else crI (cX vl) z (r0 + 18) x4 fun v17 => go 3 x2 (x3 + v17) (x4 + 1) r0 r1 vl z)
def db_X1_compute (K : Nat) (go : Nat → Int32 → Int32 → Int32 → Nat → Nat → (Nat → Nat) → ow_MS → Option (Int32 × (Nat → Nat) × ow_MS)) (L : Nat) (x2 : Int32) (x3 : Int32) (x4 : Int32) (r0 : Nat) (r1 : Nat) (vl : Nat → Nat) (z : ow_MS) : Option (Int32 × (Nat → Nat) × ow_MS) := match L with
  | 0 => chV vl (dm_X1_compute_0 K go x2 x3 x4 r0 r1 vl z)
  | 1 => chV vl (dm_X1_compute_1 K go x2 x3 x4 r0 r1 vl z)
  | 2 => chV vl (dm_X1_compute_2 K go x2 x3 x4 r0 r1 vl z)
  | 3 => chV vl (dm_X1_compute_3 K go x2 x3 x4 r0 r1 vl z)
  | _ => none
def d_X1_compute (K : Nat) : Nat → Nat → Int32 → Int32 → Int32 → Nat → Nat → (Nat → Nat) → ow_MS → Option (Int32 × (Nat → Nat) × ow_MS)
  | 0 => fun _ _ _ _ _ _ _ _ => none
  | k + 1 => db_X1_compute K (d_X1_compute K k)
def de_X1_compute (K : Nat) (r0 : Nat) (r1 : Nat) (x2 : Int32) (vl : Nat → Nat) (z : ow_MS) : Option (Int32 × (Nat → Nat) × ow_MS) := d_X1_compute K K 0 x2 0 0 r0 r1 vl z
abbrev wc_X1_compute : List Cond := .code yX1_compute cX1_compute 5 (some .int) :: wD
theorem cdd_X1_compute : yX1_compute.cls = RX1 ∧ yX1_compute.cls ≠ "java/lang/invoke/MethodHandle" ∧ yX1_compute.cls ≠ "java/lang/invoke/VarHandle" ∧ (parseMethodDescriptor yX1_compute.desc).map (fun d => d.parameters.length) = some 2 := by decide +kernel
set_option maxHeartbeats 4000000 in
set_option maxRecDepth 100000 in
theorem kd_X1_compute (l : Launch) (D : va_G) (q : Nat → ClassId) (vl0 u0 : Nat → Nat) (hU0 : tw_inj (cX vl0) u0) (K : Nat) (r0 : Nat) (r1 : Nat) (x2 : Int32) (hr0 : cw_X1 r0) (hr1 : cw_X7 r1) (z z1 : ow_MS) (vlE : Nat → Nat) (r : Int32) (sz : Nat) (hq : de_X1_compute K r0 r1 x2 vl0 z = some (r, vlE, z1)) : Met l yX1_compute wc_X1_compute ({ frames := 6, cells := dca vl0 vlE, slots := dsl vl0 vlE, locals := 180 } : Room) (va_Pc [.ref (u0 r0), .ref (u0 r1), .int x2] (cw_preD D q vl0 u0 z sz)) (va_Qi (fun x (u1 : Nat → Nat) => x = r ∧ cd_U u0 u1 sz) (fun u1 t => va_P D vwCl (uw (cX vlE) q u1 z1) t.heap) (cd_A u0 sz)) (dca vl0 vlE) (dsl vl0 vlE) (cd_A u0 sz) := by
  refine Met.ofW (cc := cX1_compute) (maxL := 5) (ret := (some .int)) (by decide) rfl ?_
  intro p e s m args below meth c s₁ B hml hv
  obtain ⟨rfl, rfl, hP, hK⟩ := hv
  have hx := B.exec
  have hb := B.bytes
  have hr := B.returns
  have hts := atoms_spec (ws := wc_X1_compute) B.pre
  have hT : ∀ w ∈ wC, w.before ([.ref (u0 r0), .ref (u0 r1), .int x2] : List Value).toArray s = true := fun w h => hts w (List.mem_cons_of_mem _ (List.mem_cons_of_mem _ h))
  have hown : s.vm.findClass RX1 = some m.cls := findClass_of_methodNamed B.named
  have hlocks := B.notSynchronized
  have hA : ∀ q1 : Nat, s.heap.size ≤ q1 → cd_A u0 s.heap.size q1 := fun q1 h => Or.inr h
  have hU : uw_inj (cX vl0) u0 (cd_A u0 s.heap.size) := ⟨hU0, fun h hh => Or.inl ⟨h, hh, rfl⟩⟩
  have hM : uw_M D vwCl (cX vl0) q (cd_A u0 s.heap.size) s.heap u0 z s.heap [] := ⟨hP, va_S.rf⟩
  have hl := lv_entry ([.ref (u0 r0), .ref (u0 r1), .int x2]) (n := 5) (Nat.le_of_ble_eq_true rfl)
  rw [lg_entry_eq]
  generalize (lg_sl ([.ref (u0 r0), .ref (u0 r1), .int x2]) ++ List.replicate (5 - (lg_sl ([.ref (u0 r0), .ref (u0 r1), .int x2])).length) Slot.unset).toArray = ls at hl ⊢
  have hl : lv_has ls 5 [(0, .ref (u0 r0)), (1, .ref (u0 r1)), (2, .int x2)] := hl
  refine ow_named (fun QQ hQQ => ?_)
  generalize ([.ref (u0 r0), .ref (u0 r1), .int x2] : List Value).toArray = args at hts hT hQQ ⊢
  have key : ∀ k : Nat, (∀ (x2 : Int32) (x3 : Int32) (x4 : Int32) (r0 : Nat) (r1 : Nat) (vl u : Nat → Nat) (z : ow_MS) (H : Heap) (locs : List Loc) (ls : Array Slot), cw_X1 r0 → cw_X7 r1 → uw_inj (cX vl) u (cd_A u0 s.heap.size) → (∀ h, h ∉ dynL → u h = u0 h) → dPhi vl0 ≤ dPhi vl → uw_M D vwCl (cX vl) q (cd_A u0 s.heap.size) s.heap u z H locs → lv_has ls 5 [(0, .ref (u r0)), (1, .ref (u r1)), (2, .int x2)] → d_X1_compute K k 0 x2 x3 x4 r0 r1 vl z = some (r, vlE, z1) → W p l e ({ frames := 6, cells := dca vl0 vlE, slots := dsl vl0 vlE, locals := 180 } : Room) s m args below meth c H locs (dca vl0 vl) (dsl vl0 vl) QQ (F0 m 0 ls [])) ∧ (∀ (x2 : Int32) (x3 : Int32) (x4 : Int32) (r0 : Nat) (r1 : Nat) (vl u : Nat → Nat) (z : ow_MS) (H : Heap) (locs : List Loc) (ls : Array Slot), cw_X1 r0 → cw_X7 r1 → uw_inj (cX vl) u (cd_A u0 s.heap.size) → (∀ h, h ∉ dynL → u h = u0 h) → dPhi vl0 ≤ dPhi vl → uw_M D vwCl (cX vl) q (cd_A u0 s.heap.size) s.heap u z H locs → lv_has ls 5 [(0, .ref (u r0)), (1, .ref (u r1)), (2, .int x2), (3, .int x3)] → d_X1_compute K k 1 x2 x3 x4 r0 r1 vl z = some (r, vlE, z1) → W p l e ({ frames := 6, cells := dca vl0 vlE, slots := dsl vl0 vlE, locals := 180 } : Room) s m args below meth c H locs (dca vl0 vl) (dsl vl0 vl) QQ (F0 m 61 ls [])) ∧ (∀ (x2 : Int32) (x3 : Int32) (x4 : Int32) (r0 : Nat) (r1 : Nat) (vl u : Nat → Nat) (z : ow_MS) (H : Heap) (locs : List Loc) (ls : Array Slot), cw_X1 r0 → cw_X7 r1 → uw_inj (cX vl) u (cd_A u0 s.heap.size) → (∀ h, h ∉ dynL → u h = u0 h) → dPhi vl0 ≤ dPhi vl → uw_M D vwCl (cX vl) q (cd_A u0 s.heap.size) s.heap u z H locs → lv_has ls 5 [(0, .ref (u r0)), (1, .ref (u r1)), (2, .int x2), (3, .int x3)] → d_X1_compute K k 2 x2 x3 x4 r0 r1 vl z = some (r, vlE, z1) → W p l e ({ frames := 6, cells := dca vl0 vlE, slots := dsl vl0 vlE, locals := 180 } : Room) s m args below meth c H locs (dca vl0 vl) (dsl vl0 vl) QQ (F0 m 80 ls [])) ∧ (∀ (x2 : Int32) (x3 : Int32) (x4 : Int32) (r0 : Nat) (r1 : Nat) (vl u : Nat → Nat) (z : ow_MS) (H : Heap) (locs : List Loc) (ls : Array Slot), cw_X1 r0 → cw_X7 r1 → uw_inj (cX vl) u (cd_A u0 s.heap.size) → (∀ h, h ∉ dynL → u h = u0 h) → dPhi vl0 ≤ dPhi vl → uw_M D vwCl (cX vl) q (cd_A u0 s.heap.size) s.heap u z H locs → lv_has ls 5 [(0, .ref (u r0)), (1, .ref (u r1)), (2, .int x2), (3, .int x3), (4, .int x4)] → d_X1_compute K k 3 x2 x3 x4 r0 r1 vl z = some (r, vlE, z1) → W p l e ({ frames := 6, cells := dca vl0 vlE, slots := dsl vl0 vlE, locals := 180 } : Room) s m args below meth c H locs (dca vl0 vl) (dsl vl0 vl) QQ (F0 m 106 ls [])) := by
    intro k
    induction k with
    | zero => exact ⟨fun _ _ _ _ _ _ _ _ _ _ _ _ _ _ _ _ _ _ hq => cw_no hq, fun _ _ _ _ _ _ _ _ _ _ _ _ _ _ _ _ _ _ hq => cw_no hq, fun _ _ _ _ _ _ _ _ _ _ _ _ _ _ _ _ _ _ hq => cw_no hq, fun _ _ _ _ _ _ _ _ _ _ _ _ _ _ _ _ _ _ hq => cw_no hq⟩
    | succ k ih =>
      obtain ⟨ih_0, ih_1, ih_2, ih_3⟩ := ih
      refine ⟨?_, ?_, ?_, ?_⟩
      · intro x2 x3 x4 r0 r1 vl u z H locs ls hr0 hr1 hU hst h0 hM hl hq
        obtain ⟨hle, hq⟩ := dd_ch (show chV vl (dm_X1_compute_0 K (d_X1_compute K k) x2 x3 x4 r0 r1 vl z) = some (r, vlE, z1) from hq)
        unfold dm_X1_compute_0 at hq
        refine lv_aload_n hx hb dcX1_compute_0 rfl (lv_at hl 0 rfl) ?_
        refine vgX1_12 hx hb hT hown hK hM hr0 dcX1_compute_1 ?_
        refine lv_aload_n hx hb dcX1_compute_4 rfl (lv_at hl 1 rfl) ?_
        obtain ⟨z1, hcq, hq⟩ := tw_cl0 hq
        refine uw_calv hU hM (va_runV (As := [.ref (u r1)]) (rest := []) ⟨hx, hb, hml, hown, hts⟩ (kc_X7_copy l D q vl u hU.1 K (r0 + 1000) r1 (cs_X1_0 hr0) hr1 z z1 hcq) (cwV 1 hts (tw_gV2 wD_good (fun _ h => List.mem_cons_of_mem _ h) (List.mem_cons_of_mem _ xq_124) (List.mem_cons_of_mem _ xq_125) (List.mem_cons_of_mem _ xq_126) (List.mem_cons_of_mem _ xq_54) (List.mem_cons_of_mem _ xq_127)) rfl rfl rfl cdd_X7_copy ⟨(Nat.le_of_ble_eq_true rfl), (Nat.le_of_ble_eq_true rfl)⟩) (cw_preV hK hM (co_X7 (cs_X1_0 hr0)) rfl) rfl rfl hl.1 rfl (lv_room (Nat.le_of_ble_eq_true rfl)) dcX1_compute_5 ⟨dca_le hle, dsl_le hle⟩) (fun H locs hM => ?_)
        refine lv_aload_n hx hb dcX1_compute_8 rfl (lv_at hl 0 rfl) ?_
        obtain ⟨z2, hcq, hq⟩ := tw_cl0 hq
        refine uw_calv hU hM (va_runV (As := []) (rest := []) ⟨hx, hb, hml, hown, hts⟩ (kc_X1_tidy l D q vl u hU.1 K r0 hr0 z1 z2 hcq) (cwV 0 hts (tw_gV2 wD_good (fun _ h => List.mem_cons_of_mem _ h) (List.mem_cons_of_mem _ xq_135) (List.mem_cons_of_mem _ xq_136) (List.mem_cons_of_mem _ xq_137) (List.mem_cons_of_mem _ xq_138) (List.mem_cons_of_mem _ xq_139)) rfl rfl rfl cdd_X1_tidy ⟨(Nat.le_of_ble_eq_true rfl), (Nat.le_of_ble_eq_true rfl)⟩) (cw_preV hK hM (co_X1 hr0) rfl) rfl rfl hl.1 rfl (lv_room (Nat.le_of_ble_eq_true rfl)) dcX1_compute_9 ⟨dca_le hle, dsl_le hle⟩) (fun H locs hM => ?_)
        refine lv_aload_n hx hb dcX1_compute_12 rfl (lv_at hl 0 rfl) ?_
        refine lv_iload_n hx hb dcX1_compute_13 rfl (lv_at hl 2 rfl) ?_
        refine vpX1_80 hx hb hT hown hK hM hU hr0 hq dcX1_compute_14 (fun z3 H locs hM hq => ?_)
        refine lv_aload_n hx hb dcX1_compute_17 rfl (lv_at hl 0 rfl) ?_
        refine lv_aload_n hx hb dcX1_compute_18 rfl (lv_at hl 0 rfl) ?_
        refine vgX1_12 hx hb hT hown hK hM hr0 dcX1_compute_19 ?_
        obtain ⟨v5, z4, hcq, hq⟩ := tw_cl1 hq
        refine uw_cali hU hM (va_runV (As := []) (rest := [.ref (u r0)]) ⟨hx, hb, hml, hown, hts⟩ (kc_X7_writhe l D q vl u hU.1 K (r0 + 1000) (cs_X1_0 hr0) z3 z4 v5 hcq) (cwV 0 hts (tw_gV2 wD_good (fun _ h => List.mem_cons_of_mem _ h) (List.mem_cons_of_mem _ xq_172) (List.mem_cons_of_mem _ xq_173) (List.mem_cons_of_mem _ xq_174) (List.mem_cons_of_mem _ xq_54) (List.mem_cons_of_mem _ xq_175)) rfl rfl rfl cdd_X7_writhe ⟨(Nat.le_of_ble_eq_true rfl), (Nat.le_of_ble_eq_true rfl)⟩) (cw_preV hK hM (co_X7 (cs_X1_0 hr0)) rfl) rfl rfl hl.1 rfl (lv_room (Nat.le_of_ble_eq_true rfl)) dcX1_compute_22 ⟨dca_le hle, dsl_le hle⟩) (fun H locs hM => ?_)
        refine vpX1_88 hx hb hT hown hK hM hU hr0 hq dcX1_compute_25 (fun z6 H locs hM hq => ?_)
        refine lv_aload_n hx hb dcX1_compute_28 rfl (lv_at hl 0 rfl) ?_
        refine lv_aload_n hx hb dcX1_compute_29 rfl (lv_at hl 0 rfl) ?_
        refine vgX1_12 hx hb hT hown hK hM hr0 dcX1_compute_30 ?_
        refine vgX1_90 hx hb hT hown hK hM (cs_X1_0 hr0) hq dcX1_compute_33 (fun v7 hq => ?_)
        refine lv_aload_n hx hb dcX1_compute_36 rfl (lv_at hl 0 rfl) ?_
        refine vgX1_88 hx hb hT hown hK hM hr0 hq dcX1_compute_37 (fun v8 hq => ?_)
        refine lv_isub hx hb dcX1_compute_40 ?_
        refine lv_iconst (v := 2) hx hb dcX1_compute_41 (by decide) ?_
        obtain ⟨hz, hq⟩ := tw_nzI hq
        refine lv_idiv hx hb dcX1_compute_42 hz ?_
        refine vpX1_93 hx hb hT hown hK hM hU hr0 hq dcX1_compute_43 (fun z9 H locs hM hq => ?_)
        refine lv_aload_n hx hb dcX1_compute_46 rfl (lv_at hl 0 rfl) ?_
        obtain ⟨z10, hcq, hq⟩ := tw_cl0 hq
        refine uw_calv hU hM (va_runV (As := []) (rest := []) ⟨hx, hb, hml, hown, hts⟩ (kc_X1_markLoops l D q vl u hU.1 K r0 hr0 z9 z10 hcq) (cwV 0 hts (tw_gV2 wD_good (fun _ h => List.mem_cons_of_mem _ h) (List.mem_cons_of_mem _ xq_176) (List.mem_cons_of_mem _ xq_177) (List.mem_cons_of_mem _ xq_178) (List.mem_cons_of_mem _ xq_138) (List.mem_cons_of_mem _ xq_179)) rfl rfl rfl cdd_X1_markLoops ⟨(Nat.le_of_ble_eq_true rfl), (Nat.le_of_ble_eq_true rfl)⟩) (cw_preV hK hM (co_X1 hr0) rfl) rfl rfl hl.1 rfl (lv_room (Nat.le_of_ble_eq_true rfl)) dcX1_compute_47 ⟨dca_le hle, dsl_le hle⟩) (fun H locs hM => ?_)
        refine lv_aload_n hx hb dcX1_compute_50 rfl (lv_at hl 0 rfl) ?_
        refine vgX1_64 hx hb hT hown hK hM hr0 dcX1_compute_51 ?_
        refine lv_iconst (v := 0) hx hb dcX1_compute_54 (by decide) ?_
        obtain ⟨z11, hcq, hq⟩ := tw_cl0 hq
        refine uw_calv hU hM (va_runS (As := [.ref (u (r0 + 18)), .int 0]) (rest := []) ⟨hx, hb, hml, hown, hts⟩ (kc_J7_fill_53178 l D q vl u hU.1 K (r0 + 18) 0 (cr_X1_17 hr0) z10 z11 hcq) (va_cwS 2 hts (tw_gS2 wD_good (fun _ h => List.mem_cons_of_mem _ h) (List.mem_cons_of_mem _ xq_193) (List.mem_cons_of_mem _ xq_8) (List.mem_cons_of_mem _ xq_9) (List.mem_cons_of_mem _ xq_10)) rfl rfl rfl cdd_J7_fill_53178 ⟨(Nat.le_of_ble_eq_true rfl), (Nat.le_of_ble_eq_true rfl)⟩) (cw_preS hK hM) rfl rfl hl.1 rfl (lv_room (Nat.le_of_ble_eq_true rfl)) dcX1_compute_55 ⟨dca_le hle, dsl_le hle⟩) (fun H locs hM => ?_)
        refine lv_bipush (v := (-10)) hx hb dcX1_compute_58 (by decide) ?_
        refine lv_istore_n (lv' := [(3, .int (-10)), (0, .ref (u r0)), (1, .ref (u r1)), (2, .int x2)]) hx hb dcX1_compute_60 rfl hl (by decide) rfl (fun ls hl => ?_)
        exact ih_1 x2 (-10) 0 r0 r1 vl u z11 H locs ls hr0 hr1 hU hst h0 hM (lv_sub hl [1, 2, 3, 0] rfl) hq
      · intro x2 x3 x4 r0 r1 vl u z H locs ls hr0 hr1 hU hst h0 hM hl hq
        obtain ⟨hle, hq⟩ := dd_ch (show chV vl (dm_X1_compute_1 K (d_X1_compute K k) x2 x3 x4 r0 r1 vl z) = some (r, vlE, z1) from hq)
        unfold dm_X1_compute_1 at hq
        refine lv_iload_n hx hb dcX1_compute_61 rfl (lv_at hl 3 rfl) ?_
        refine lv_bipush (v := 18) hx hb dcX1_compute_62 (by decide) ?_
        refine lv_icmp_gt (tgt := 78) hx hb dcX1_compute_64 (by decide) (fun hc => ?_) (fun hc => ?_)
        · have hq := tw_it hq hc
          refine lv_iconst (v := 0) hx hb dcX1_compute_78 (by decide) ?_
          refine lv_istore_n (lv' := [(3, .int 0), (0, .ref (u r0)), (1, .ref (u r1)), (2, .int x2)]) hx hb dcX1_compute_79 rfl hl (by decide) rfl (fun ls hl => ?_)
          exact ih_2 x2 0 0 r0 r1 vl u z H locs ls hr0 hr1 hU hst h0 hM (lv_sub hl [1, 2, 3, 0] rfl) hq
        · have hq := tw_if hq hc
          refine lv_aload_n hx hb dcX1_compute_67 rfl (lv_at hl 0 rfl) ?_
          refine lv_iload_n hx hb dcX1_compute_68 rfl (lv_at hl 3 rfl) ?_
          obtain ⟨v13, vm14, z12, hcq, hq⟩ := dd_dc1 hq
          obtain ⟨hle1, hq⟩ := dd_ch hq
          have hcl := dl_X1_rankDegree hcq
          refine dd_calv hA hU hM h0 hcl (va_runV (As := [.int x3]) (rest := []) ⟨hx, hb, hml, hown, hts⟩ (kd_X1_rankDegree l D q vl u hU.1 K r0 x3 hr0 z z12 vm14 v13 H.size hcq) (cwV 1 hts (tw_gV2 wD_good (fun _ h => h) (List.mem_cons_of_mem _ xq_194) (List.mem_cons_of_mem _ xq_195) (List.mem_cons_of_mem _ xq_196) (List.mem_cons_of_mem _ xq_138) (List.mem_cons_of_mem _ xq_197)) rfl rfl rfl cdd_X1_rankDegree ⟨(Nat.le_of_ble_eq_true rfl), (Nat.le_of_ble_eq_true rfl)⟩) (dd_preV hK hM (co_X1 hr0) rfl) rfl rfl hl.1 rfl (lv_room (Nat.le_of_ble_eq_true rfl)) dcX1_compute_69 ⟨Nat.le_trans (dca_add h0 hcl) (dca_le hle1), Nat.le_trans (dsl_add h0 hcl) (dsl_le hle1)⟩) (fun u H locs hU hs1 hM => ?_)
          have h0 := Nat.le_trans h0 hcl
          have hle := hle1
          clear hle1
          have hl : lv_has ls 5 [(0, .ref (u r0)), (1, .ref (u r1)), (2, .int x2), (3, .int x3)] := by rw [hs1 r0 (ns_X1 hr0), hs1 r1 (ns_X7 hr1)]; exact hl
          have hst : ∀ h, h ∉ dynL → u h = u0 h := fun h hh => (hs1 h hh).trans (hst h hh)
          obtain ⟨vl, hvl⟩ : ∃ v, v = vm14 := ⟨_, rfl⟩
          rw [← hvl] at hU h0 hle hM hq ⊢
          refine lv_iinc (v := (x3 + 1)) (lv' := [(3, .int (x3 + 1)), (0, .ref (u r0)), (1, .ref (u r1)), (2, .int x2)]) hx hb dcX1_compute_72 hl (k := 3) rfl rfl (by decide) rfl (fun ls hl => ?_)
          refine lv_goto (tgt := 61) hx hb dcX1_compute_75 (by decide) ?_
          exact ih_1 x2 (x3 + 1) 0 r0 r1 vl u z12 H locs ls hr0 hr1 hU hst h0 hM (lv_sub hl [1, 2, 3, 0] rfl) hq
      · intro x2 x3 x4 r0 r1 vl u z H locs ls hr0 hr1 hU hst h0 hM hl hq
        obtain ⟨hle, hq⟩ := dd_ch (show chV vl (dm_X1_compute_2 K (d_X1_compute K k) x2 x3 x4 r0 r1 vl z) = some (r, vlE, z1) from hq)
        unfold dm_X1_compute_2 at hq
        refine lv_iload_n hx hb dcX1_compute_80 rfl (lv_at hl 3 rfl) ?_
        refine lv_aload_n hx hb dcX1_compute_81 rfl (lv_at hl 0 rfl) ?_
        refine vgX1_12 hx hb hT hown hK hM hr0 dcX1_compute_82 ?_
        refine vgX1_109 hx hb hT hown hK hM (cs_X1_0 hr0) hq dcX1_compute_85 (fun v15 hq => ?_)
        refine lv_icmp_ge (tgt := 101) hx hb dcX1_compute_88 (by decide) (fun hc => ?_) (fun hc => ?_)
        · have hq := tw_it hq hc
          refine lv_iconst (v := 0) hx hb dcX1_compute_101 (by decide) ?_
          refine lv_istore_n (lv' := [(3, .int 0), (0, .ref (u r0)), (1, .ref (u r1)), (2, .int x2)]) hx hb dcX1_compute_102 rfl hl (by decide) rfl (fun ls hl => ?_)
          refine lv_iconst (v := 0) hx hb dcX1_compute_103 (by decide) ?_
          refine lv_istore (lv' := [(4, .int 0), (3, .int 0), (0, .ref (u r0)), (1, .ref (u r1)), (2, .int x2)]) hx hb dcX1_compute_104 hl (by decide) rfl (fun ls hl => ?_)
          exact ih_3 x2 0 0 r0 r1 vl u z H locs ls hr0 hr1 hU hst h0 hM (lv_sub hl [2, 3, 4, 1, 0] rfl) hq
        · have hq := tw_if hq hc
          refine lv_aload_n hx hb dcX1_compute_91 rfl (lv_at hl 0 rfl) ?_
          obtain ⟨z16, hcq, hq⟩ := tw_cl0 hq
          refine uw_calv hU hM (va_runV (As := []) (rest := []) ⟨hx, hb, hml, hown, hts⟩ (kc_X1_addCircle l D q vl u hU.1 K r0 hr0 z z16 hcq) (cwV 0 hts (tw_gV2 wD_good (fun _ h => List.mem_cons_of_mem _ h) (List.mem_cons_of_mem _ xq_261) (List.mem_cons_of_mem _ xq_262) (List.mem_cons_of_mem _ xq_263) (List.mem_cons_of_mem _ xq_138) (List.mem_cons_of_mem _ xq_264)) rfl rfl rfl cdd_X1_addCircle ⟨(Nat.le_of_ble_eq_true rfl), (Nat.le_of_ble_eq_true rfl)⟩) (cw_preV hK hM (co_X1 hr0) rfl) rfl rfl hl.1 rfl (lv_room (Nat.le_of_ble_eq_true rfl)) dcX1_compute_92 ⟨dca_le hle, dsl_le hle⟩) (fun H locs hM => ?_)
          refine lv_iinc (v := (x3 + 1)) (lv' := [(3, .int (x3 + 1)), (0, .ref (u r0)), (1, .ref (u r1)), (2, .int x2)]) hx hb dcX1_compute_95 hl (k := 3) rfl rfl (by decide) rfl (fun ls hl => ?_)
          refine lv_goto (tgt := 80) hx hb dcX1_compute_98 (by decide) ?_
          exact ih_2 x2 (x3 + 1) 0 r0 r1 vl u z16 H locs ls hr0 hr1 hU hst h0 hM (lv_sub hl [1, 2, 3, 0] rfl) hq
      · intro x2 x3 x4 r0 r1 vl u z H locs ls hr0 hr1 hU hst h0 hM hl hq
        obtain ⟨hle, hq⟩ := dd_ch (show chV vl (dm_X1_compute_3 K (d_X1_compute K k) x2 x3 x4 r0 r1 vl z) = some (r, vlE, z1) from hq)
        unfold dm_X1_compute_3 at hq
        refine lv_iload hx hb dcX1_compute_106 (lv_at hl 4 rfl) ?_
        refine lv_aload_n hx hb dcX1_compute_108 rfl (lv_at hl 0 rfl) ?_
        refine vgX1_64 hx hb hT hown hK hM hr0 dcX1_compute_109 ?_
        refine uw_alen cX_ok hx hb hK hM (cr_X1_17 hr0) dcX1_compute_112 ?_
        refine lv_icmp_ge (tgt := 132) hx hb dcX1_compute_113 (by decide) (fun hc => ?_) (fun hc => ?_)
        · have hq := tw_it hq hc
          refine lv_iload_n hx hb dcX1_compute_132 rfl (lv_at hl 3 rfl) ?_
          exact dd_iret hx hb hr hlocks hU hst hM hq hQQ dcX1_compute_133
        · have hq := tw_if hq hc
          refine lv_iload_n hx hb dcX1_compute_116 rfl (lv_at hl 3 rfl) ?_
          refine lv_aload_n hx hb dcX1_compute_117 rfl (lv_at hl 0 rfl) ?_
          refine vgX1_64 hx hb hT hown hK hM hr0 dcX1_compute_118 ?_
          refine lv_iload hx hb dcX1_compute_121 (lv_at hl 4 rfl) ?_
          refine uw_iald cX_ok hx hb hK hM (cr_X1_17 hr0) hq dcX1_compute_123 (fun v17 hq => ?_)
          refine lv_iadd hx hb dcX1_compute_124 ?_
          refine lv_istore_n (lv' := [(3, .int (x3 + v17)), (0, .ref (u r0)), (1, .ref (u r1)), (2, .int x2), (4, .int x4)]) hx hb dcX1_compute_125 rfl hl (by decide) rfl (fun ls hl => ?_)
          refine lv_iinc (v := (x4 + 1)) (lv' := [(4, .int (x4 + 1)), (3, .int (x3 + v17)), (0, .ref (u r0)), (1, .ref (u r1)), (2, .int x2)]) hx hb dcX1_compute_126 hl (k := 4) rfl rfl (by decide) rfl (fun ls hl => ?_)
          refine lv_goto (tgt := 106) hx hb dcX1_compute_129 (by decide) ?_
          exact ih_3 x2 (x3 + v17) (x4 + 1) r0 r1 vl u z H locs ls hr0 hr1 hU hst h0 hM (lv_sub hl [2, 3, 4, 1, 0] rfl) hq
  refine W.widen (k := dca vl0 vl0) (n := dsl vl0 vl0) (Nat.zero_le _) (Nat.zero_le _) ?_
  exact (key K).1 x2 0 0 r0 r1 vl0 u0 z s.heap [] ls hr0 hr1 hU (fun _ _ => rfl) (Nat.le_refl _) hM (lv_sub hl [0, 1, 2] rfl) hq
