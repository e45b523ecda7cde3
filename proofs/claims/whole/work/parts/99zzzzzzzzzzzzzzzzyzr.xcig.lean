-- CHAIN: the reference's reduced, exactly
def px9 (z : ow_MS) (p size N : Nat) (cl vv : Nat → Nat) (d : Nat → vc9) : Prop := (∀ i, i < N → z.2.1 92 i = nI (1024 * cl i + vv i) ∧ cl i < size ∧ vv i < p) ∧ ∀ k, k < size → (z.2.1 90 k = -1 ∧ ∀ j, j < size → (p : Int) ∣ d k j) ∨ ∃ b e, z.2.1 90 k = nI b ∧ z.2.1 91 k = nI e ∧ b ≤ e ∧ e ≤ N ∧ (∀ j, j < size → (p : Int) ∣ rs9 cl vv b (e - b) j - d k j) ∧ (p : Int) ∣ d k k - 1
section XCK6
variable {z : ow_MS}
theorem px_fr {P : Nat → Prop} {y y1 : ow_MS} {p size N : Nat} {cl vv : Nat → Nat} {d : Nat → vc9} (hf : fr P y y1) (hP : ¬ P 90 ∧ ¬ P 91 ∧ ¬ P 92) (h : px9 y p size N cl vv d) : px9 y1 p size N cl vv d := by
  unfold px9
  rw [(hf _ hP.1).2.1, (hf _ hP.2.1).2.1, (hf _ hP.2.2).2.1]
  exact h
theorem re_inv {a p : Nat} (hp : prT p) (hp9 : p ≤ 997) (h1 : 1 ≤ a) (h2 : a < p) : Te (fun K => qe_X13_inverseOf K (nI a) (nI p) z) (fun r => r.2 = z ∧ ∃ k, k < p ∧ r.1 = nI k ∧ k * a % p = 1) := by
  have hp2 := hp.1
  obtain ⟨k0, hk1, hk2, hk3⟩ := pr_inv hp h1 h2
  have key : ∀ (d k : Nat), k + d = k0 → Tt (fun K i => q_X13_inverseOf K i 1 (nI a) (nI p) (nI k) z) (fun r => r.2 = z ∧ ∃ k, k < p ∧ r.1 = nI k ∧ k * a % p = 1) := by
    intro d
    induction d with
    | zero =>
      intro k hk
      have hk : k = k0 := by omega
      subst hk
      have hb : k * a < 2 ^ 31 := by
        have := Nat.mul_le_mul (show k ≤ 997 by omega) (show a ≤ 997 by omega)
        omega
      refine u_X13_inverseOf_1 ?_; unfold qm_X13_inverseOf_1
      rw [pk_mul, pk_rem hb (by omega) (by omega), hk3]
      exact w_nzI (fun e => by have := (nI_eq (a := p) (b := 0) (by omega) (by omega)).mp e; omega) (w_ifT rfl (w_some ⟨rfl, k, hk2, rfl, hk3⟩))
    | succ d ih =>
      intro k hk
      have hb : k * a < 2 ^ 31 := by
        have := Nat.mul_le_mul (show k ≤ 997 by omega) (show a ≤ 997 by omega)
        omega
      have hm : k * a % p < p := Nat.mod_lt _ (by omega)
      refine u_X13_inverseOf_1 ?_; unfold qm_X13_inverseOf_1
      rw [pk_mul, pk_rem hb (by omega) (by omega), nI_1]
      exact w_nzI (fun e => by have := (nI_eq (a := p) (b := 0) (by omega) (by omega)).mp e; omega) (w_if (fun h9 => w_some ⟨rfl, k, by omega, rfl, (nI_eq (a := k * a % p) (b := 1) (by omega) (by omega)).mp h9⟩) (fun _ => ih (k + 1) (by omega)))
  refine e_X13_inverseOf ?_
  refine u_X13_inverseOf_0 ?_; unfold qm_X13_inverseOf_0
  exact key (k0 - 1) 1 (by omega)
theorem md_dv {p a : Nat} (x : Int) (h : (p : Int) ∣ (a : Int) - x) : (p : Int) ∣ ((a % p : Nat) : Int) - x := by
  have h1 : (p : Int) ∣ ((a % p : Nat) : Int) - (a : Int) := dv_md (Nat.mod_mod _ _)
  have := Int.dvd_add h1 h
  rw [show ((a % p : Nat) : Int) - (a : Int) + ((a : Int) - x) = ((a % p : Nat) : Int) - x by omega] at this
  exact this
theorem z_dv {p a : Nat} {x : Int} (h : (p : Int) ∣ (a : Int) - x) (ha : a % p = 0) : (p : Int) ∣ x := by
  have := md_dv x h
  rw [ha] at this
  have := Int.dvd_neg.mpr this
  rw [show -(((0 : Nat) : Int) - x) = x by omega] at this
  exact this
theorem re_reduced {size p b n N0 : Nat} {cl0 vv0 : Nat → Nat} {d9 M9 : Nat → vc9} (hp : prT p) (hp9 : p ≤ 997) (hs : size ≤ 1140) (hb : b ≤ 20000) (hpb : p ≤ b) (hI : plI z size) (h93 : z.1 93 = nI N0) (hN0 : N0 < 2 ^ 31) (hx : px9 z p size N0 cl0 vv0 d9) (hE : El9 p size M9 n d9) (hw : wkR z p size b (M9 n)) : Te (fun K => qe_X13_reduced K (nI size) (nI p) z) (fun r => plI r.2 size ∧ fr rdH z r.2 ∧ ∃ N1 cl vv d' ρ, r.2.1 93 = nI N1 ∧ N1 < 2 ^ 31 ∧ px9 r.2 p size N1 cl vv d' ∧ El9 p size M9 (n + 1) d' ∧ r.1 = nI ρ ∧ ρ ≤ 1 ∧ rk9 p size (rwl9 M9 (n + 1)) = rk9 p size (rwl9 M9 n) + ρ) := by
  have hp2 := hp.1
  have hpr := prp_of hp
  have htri := tri_le hs
  have hpz : nI p ≠ 0 := fun e => by have := (nI_eq (a := p) (b := 0) (by omega) (by omega)).mp e; omega
  let Q : Int32 × ow_MS → Prop := fun r => plI r.2 size ∧ fr rdH z r.2 ∧ ∃ N1 cl vv d' ρ, r.2.1 93 = nI N1 ∧ N1 < 2 ^ 31 ∧ px9 r.2 p size N1 cl vv d' ∧ El9 p size M9 (n + 1) d' ∧ r.1 = nI ρ ∧ ρ ≤ 1 ∧ rk9 p size (rwl9 M9 (n + 1)) = rk9 p size (rwl9 M9 n) + ρ
  have wB : ∀ {y : ow_MS} {cur : vc9}, wkR y p size b cur → wkB y size b := fun h i hi => by
    obtain ⟨a, a1, a2, -⟩ := h i hi
    exact ⟨a, a2, a1⟩
  have c1 : ∀ (d k : Nat) (y : ow_MS) (cur : vc9), k + d = size → plI y size → y.1 93 = nI N0 → px9 y p size N0 cl0 vv0 d9 → wkR y p size b cur → (∀ j, j < k → (p : Int) ∣ cur j) → sp9 p size (rwl9 d9 size) (fun j => M9 n j - cur j) → fr rdH z y → Tt (fun K i => q_X13_reduced K i 1 (nI size) (nI p) (nI k) 0 0 0 0 y) Q := by
    intro d
    induction d with
    | zero =>
      intro k y cur hk hI h93 hx hw hz0 hsp hf
      refine u_X13_reduced_1 ?_; unfold qm_X13_reduced_1
      refine w_leT (by omega) (by omega) (w_okZ (Or.inl rfl) (w_some ⟨hI, hf, N0, cl0, vv0, d9, 0, h93, hN0, hx, ?_⟩))
      have hin : sp9 p size (rwl9 d9 size) (M9 n) := sp_q (fun j hj => by
        rw [show M9 n j - (M9 n j - cur j) = cur j by omega]
        exact hz0 j (by omega)) hsp
      obtain ⟨e1, e2⟩ := El_n hE hin
      exact ⟨e1, rfl, by omega, e2⟩
    | succ d ih =>
      intro k y cur hk hI h93 hx hw hz0 hsp hf
      have hks : k < size := by omega
      obtain ⟨w, ew, hwb, hwd⟩ := hw k hks
      have hrm : w % p < p := Nat.mod_lt _ (by omega)
      have hf2 : fr rdH z (usI y 89 k (nI (w % p))) := fr_I2 hf (by unfold rdH; omega)
      have hI2 : plI (usI y 89 k (nI (w % p))) size := plI_89 (fr_I rfl) hI
      have hx2 : px9 (usI y 89 k (nI (w % p))) p size N0 cl0 vv0 d9 := px_fr (fr_I (P := fun g => g = 89) rfl) (by omega) hx
      have hw2 : wkR (usI y 89 k (nI (w % p))) p size b cur := fun i hi => by
        by_cases hik : i = k
        · rw [hik]
          exact ⟨w % p, po_usI_at, by omega, md_dv _ hwd⟩
        · obtain ⟨w3, e3, h3, d3⟩ := hw i hi
          exact ⟨w3, rd_ne hik e3, h3, d3⟩
      have c5 : ∀ (x4 : Int32) (y : ow_MS) (cur : vc9), plI y size → y.1 93 = nI N0 → px9 y p size N0 cl0 vv0 d9 → wkR y p size b cur → (∀ j, j < k + 1 → (p : Int) ∣ cur j) → sp9 p size (rwl9 d9 size) (fun j => M9 n j - cur j) → fr rdH z y → Tt (fun K i => q_X13_reduced K i 5 (nI size) (nI p) (nI k) x4 0 0 0 y) Q := by
        intro x4 y cur a1 a2 a3 a4 a5 a6 a7
        refine u_X13_reduced_5 ?_; unfold qm_X13_reduced_5
        rw [nI_1]
        exact ih (k + 1) y cur (by omega) a1 a2 a3 a4 a5 a6 a7
      have hI2' := hI2
      obtain ⟨N, n1, n2, n3, n4⟩ := hI2
      have eN : N = N0 := (nI_eq (a := N) (b := N0) (by omega) hN0).mp (n1.symm.trans h93)
      subst eN
      have hN : N ≤ 650370 := by omega
      refine u_X13_reduced_1 ?_; unfold qm_X13_reduced_1
      refine w_leF (by omega) (by omega) (w_rdI ml89 rfl (by omega) ew (w_nzI hpz ?_))
      rw [pk_rem (by omega) (by omega) (by omega)]
      refine w_wrI ml89 rfl (by omega) (w_eqN (b := 0) (by omega) (by omega) (fun h0 => c5 _ _ cur hI2' n1 hx2 hw2 (fun j hj => ?_) hsp hf2) (fun h0 => ?_))
      · by_cases e : j = k
        · rw [e]
          exact z_dv hwd h0
        · exact hz0 j (by omega)
      have cnk : ¬ (p : Int) ∣ cur k := fun h9 => h0 (by
        have := Int.dvd_add hwd h9
        rw [show (w : Int) - cur k + cur k = w by omega] at this
        exact Nat.mod_eq_zero_of_dvd (Int.natCast_dvd_natCast.mp this))
      rcases hx2.2 k hks with ⟨hm1, hzr⟩ | ⟨b1, e1, g1, g2, g3, g4, g5, g6⟩
      · -- a new row
        refine w_rdI ml90 rfl (by omega) hm1 (w_ifT rfl (w_cs1 (re_inv hp hp9 (a := w % p) (by omega) hrm) (fun a y9 ⟨e9, iv, hiv, eiv, hinv⟩ => ?_)))
        have e9 : y9 = usI y 89 k (nI (w % p)) := e9
        have eiv2 : a = nI iv := eiv
        subst e9
        rw [eiv2]
        have hu := unk_set (size := size) (v := N) (by omega) hm1 size (by omega)
        have tt : (p : Int) ∣ (iv : Int) * ((w % p : Nat) : Int) - 1 := by
          have := dv_md (p := p) (x := iv * (w % p)) (y := 1) (by rw [hinv, Nat.mod_eq_of_lt (by omega)])
          rw [Int.natCast_mul] at this
          exact this
        have ivk : (p : Int) ∣ (iv : Int) * cur k - 1 := by
          have h1 := Int.dvd_neg.mpr (dvr9 (iv : Int) (md_dv _ hwd))
          have := Int.dvd_add tt h1
          rw [show (iv : Int) * ((w % p : Nat) : Int) - 1 + -((iv : Int) * (((w % p : Nat) : Int) - cur k)) = (iv : Int) * cur k - 1 by rw [Int.mul_sub]; omega] at this
          exact this
        have El := El_y (u := fun j => (iv : Int) * cur j) hpr hE hks hzr hsp hz0 cnk tt zq_r
        refine w_rdF n1 (w_wrI ml90 rfl (by omega) ?_)
        have c2 : ∀ (d2 i M : Nat) (cl vv : Nat → Nat) (y : ow_MS), i + d2 = size → k ≤ i → N ≤ M → M + k ≤ N + i → fr rdH z y → y.1 93 = nI M → wkR y p size b cur → (∀ j, j < size → j ≠ k → (y.2.1 90 j = -1 ∧ ∀ i, i < size → (p : Int) ∣ d9 j i) ∨ ∃ b e, y.2.1 90 j = nI b ∧ y.2.1 91 j = nI e ∧ b ≤ e ∧ e ≤ N ∧ (∀ i, i < size → (p : Int) ∣ rs9 cl0 vv0 b (e - b) i - d9 j i) ∧ (p : Int) ∣ d9 j j - 1) → y.2.1 90 k = nI N → (∀ i, i < M → y.2.1 92 i = nI (1024 * cl i + vv i) ∧ cl i < size ∧ vv i < p) → (∀ i, i < N → cl i = cl0 i ∧ vv i = vv0 i) → (∀ j, j < size → (p : Int) ∣ rs9 cl vv N (M - N) j - (if k ≤ j ∧ j < i then (iv : Int) * cur j else 0)) → M + unkF y size size + (size - k) ≤ triF size size + (M - N) → Tt (fun K t => q_X13_reduced K t 2 (nI size) (nI p) (nI k) (nI (w % p)) (nI iv) (nI i) 0 y) Q := by
          intro d2
          induction d2 with
          | zero =>
            intro i M cl vv y hi hki hNM hM hf h93 hw hrow hk9 hpool hold hrs hun
            refine u_X13_reduced_2 ?_; unfold qm_X13_reduced_2
            refine w_leT (by omega) (by omega) (w_rdF h93 (w_wrI ml91 rfl (by omega) (w_okZ (Or.inr rfl) (w_some ⟨⟨M, h93, ?_, fun j hj => ?_, fun i hi => ?_⟩, fr_I2 hf (by unfold rdH; omega), M, cl, vv, (fun j => if j = k then (fun j => (iv : Int) * cur j) else d9 j), 1, h93, by omega, ⟨fun i hi => ?_, fun j hj => ?_⟩, El.1, rfl, Nat.le_refl 1, El.2⟩))))
            · rw [unk_eq (y := y) size (fun i _ => by rw [po_usI_ot (by omega)])]
              omega
            · by_cases hjk : j = k
              · rw [hjk]
                exact Or.inr ⟨N, M, by rw [po_usI_ot (by omega)]; exact hk9, po_usI_at, hNM, Nat.le_refl _⟩
              · rcases hrow j hj hjk with h9 | ⟨b1, e1, g1, g2, g3, g4, -⟩
                · exact Or.inl (rd_ot (by omega) h9.1)
                · exact Or.inr ⟨b1, e1, rd_ot (by omega) g1, rd_ne hjk g2, g3, by omega⟩
            · obtain ⟨g1, g2, g3⟩ := hpool i hi
              exact ⟨cl i, vv i, g2, by omega, rd_ot (by omega) g1⟩
            · obtain ⟨g1, g2, g3⟩ := hpool i hi
              exact ⟨rd_ot (by omega) g1, g2, g3⟩
            · dsimp only
              by_cases hjk : j = k
              · rw [if_pos hjk, hjk]
                refine Or.inr ⟨N, M, rd_ot (by omega) hk9, po_usI_at, hNM, Nat.le_refl _, fun t ht => ?_, ivk⟩
                have := hrs t ht
                by_cases q : k ≤ t ∧ t < i
                · rw [if_pos q] at this
                  exact this
                · rw [if_neg q, Int.sub_zero] at this
                  exact Int.dvd_sub this (dvr9 (iv : Int) (hz0 t (by omega)))
              · rw [if_neg hjk]
                rcases hrow j hj hjk with h9 | ⟨b1, e1, g1, g2, g3, g4, g5, g6⟩
                · exact Or.inl ⟨rd_ot (by omega) h9.1, h9.2⟩
                · refine Or.inr ⟨b1, e1, rd_ot (by omega) g1, rd_ne hjk g2, g3, by omega, fun t ht => ?_, g6⟩
                  rw [rs_cg (fun i hi => hold i (by omega))]
                  exact g5 t ht
          | succ d2 ih2 =>
            intro i M cl vv y hi hki hNM hM hf h93 hw hrow hk9 hpool hold hrs hun
            obtain ⟨w4, ew4, hw4, hd4⟩ := hw i (by omega)
            have hr4 : w4 % p < p := Nat.mod_lt _ (by omega)
            have hmul : w4 % p * iv < 2 ^ 31 := by
              have := Nat.mul_le_mul (show w4 % p ≤ 997 by omega) (show iv ≤ 997 by omega)
              omega
            have hro : w4 % p * iv % p < p := Nat.mod_lt _ (by omega)
            have hval : (p : Int) ∣ ((w4 % p * iv % p : Nat) : Int) - (iv : Int) * cur i := by
              have h1 := dvr9 (iv : Int) (md_dv _ hd4)
              refine md_dv _ ?_
              rw [Int.natCast_mul, Int.mul_comm ((w4 % p : Nat) : Int), ← Int.mul_sub]
              exact h1
            have ni := hrs i (by omega)
            rw [if_neg (by omega), Int.sub_zero] at ni
            refine u_X13_reduced_2 ?_; unfold qm_X13_reduced_2
            refine w_leF (by omega) (by omega) (w_rdI ml89 rfl (by omega) ew4 (w_nzI hpz (w_nzI hpz ?_)))
            rw [pk_rem (by omega) (by omega) (by omega), pk_mul, pk_rem hmul (by omega) (by omega)]
            refine w_eqN (b := 0) (by omega) (by omega) (fun hz9 => ?_) (fun hz9 => w_rdF h93 ?_)
            · refine u_X13_reduced_3 ?_; unfold qm_X13_reduced_3
              rw [nI_1]
              refine ih2 (i + 1) M cl vv y (by omega) (by omega) hNM (by omega) hf h93 hw hrow hk9 hpool hold (fun j hj => ?_) hun
              by_cases q : j = i
              · rw [q, if_pos ⟨hki, by omega⟩]
                rw [hz9] at hval
                have := Int.dvd_add ni hval
                rw [show rs9 cl vv N (M - N) i + (((0 : Nat) : Int) - (iv : Int) * cur i) = rs9 cl vv N (M - N) i - (iv : Int) * cur i by omega] at this
                exact this
              · have := hrs j hj
                by_cases q2 : k ≤ j ∧ j < i
                · rw [if_pos q2] at this
                  rw [if_pos ⟨q2.1, by omega⟩]
                  exact this
                · rw [if_neg q2] at this
                  rw [if_neg (fun h9 => q2 ⟨h9.1, by omega⟩)]
                  exact this
            · rw [show (1024 : Int32) * nI i = nI (1024 * i) from pk_mul 1024 i, nI_add]
              refine w_wrI ml92 rfl (by omega) (w_rdF (x := nI M) h93 (w_wrF ?_))
              refine u_X13_reduced_3 ?_; unfold qm_X13_reduced_3
              rw [nI_1]
              refine ih2 (i + 1) (M + 1) (fun t => if t = M then i else cl t) (fun t => if t = M then w4 % p * iv % p else vv t) _ (by omega) (by omega) (by omega) (by omega) (fr_F2 (fr_I2 hf (by unfold rdH; omega)) (by unfold rdH; omega)) (po_usF_at.trans (nI_1 M)) (fun i hi => ?_) (fun j hj hjk => ?_) ?_ (fun t ht => ?_) (fun t ht => ?_) (fun j hj => ?_) ?_
              · obtain ⟨w5, e5, h5, d5⟩ := hw i hi
                exact ⟨w5, rd_ot (by omega) e5, h5, d5⟩
              · show ((usI y 92 M _).2.1 90 j = -1 ∧ _) ∨ ∃ b e, (usI y 92 M _).2.1 90 j = nI b ∧ (usI y 92 M _).2.1 91 j = nI e ∧ _
                rw [po_usI_ot (by omega), po_usI_ot (by omega)]
                exact hrow j hj hjk
              · show (usI y 92 M _).2.1 90 k = nI N
                rw [po_usI_ot (by omega)]
                exact hk9
              · show (usI y 92 M _).2.1 92 t = nI (1024 * (if t = M then i else cl t) + (if t = M then w4 % p * iv % p else vv t)) ∧ _ ∧ _
                by_cases htM : t = M
                · rw [if_pos htM, if_pos htM, htM]
                  exact ⟨po_usI_at, by omega, hro⟩
                · rw [if_neg htM, if_neg htM]
                  obtain ⟨g1, g2, g3⟩ := hpool t (by omega)
                  exact ⟨rd_ne htM g1, g2, g3⟩
              · rw [if_neg (by omega), if_neg (by omega)]
                exact hold t ht
              · have e9 : M + 1 - N = (M - N) + 1 := by omega
                rw [e9, rs_s, rs_cg (cl := cl) (vv := vv) (fun i hi => ⟨if_neg (by omega), if_neg (by omega)⟩)]
                show (p : Int) ∣ rs9 cl vv N (M - N) j + (if (if N + (M - N) = M then i else cl (N + (M - N))) = j then ((if N + (M - N) = M then w4 % p * iv % p else vv (N + (M - N)) : Nat) : Int) else 0) - _
                rw [if_pos (show N + (M - N) = M by omega), if_pos (show N + (M - N) = M by omega)]
                have hj9 := hrs j hj
                by_cases q : i = j
                · subst q
                  rw [if_pos rfl, if_pos ⟨hki, by omega⟩]
                  have := Int.dvd_add ni hval
                  rw [show rs9 cl vv N (M - N) i + (((w4 % p * iv % p : Nat) : Int) - (iv : Int) * cur i) = rs9 cl vv N (M - N) i + ((w4 % p * iv % p : Nat) : Int) - (iv : Int) * cur i by omega] at this
                  exact this
                · rw [if_neg q, Int.add_zero]
                  by_cases q2 : k ≤ j ∧ j < i
                  · rw [if_pos q2] at hj9
                    rw [if_pos ⟨q2.1, by omega⟩]
                    exact hj9
                  · rw [if_neg q2] at hj9
                    rw [if_neg (fun h9 => q2 ⟨h9.1, by omega⟩)]
                    exact hj9
              · rw [unk_eq (y := y) size (fun i _ => by show (usI y 92 M _).2.1 90 i = _; rw [po_usI_ot (by omega)])]
                omega
        refine c2 (size - k) k N cl0 vv0 _ (by omega) (Nat.le_refl _) (Nat.le_refl _) (by omega) (fr_I2 hf2 (by unfold rdH; omega)) n1 (fun i hi => ?_) (fun j hj hjk => ?_) po_usI_at (fun t ht => ?_) (fun i hi => ⟨rfl, rfl⟩) (fun j hj => ?_) (by omega)
        · obtain ⟨w5, e5, h5, d5⟩ := hw2 i hi
          exact ⟨w5, rd_ot (by omega) e5, h5, d5⟩
        · rw [po_usI_ne hjk, po_usI_ot (g := 91) (h := 90) (by omega)]
          exact hx2.2 j hj
        · rw [po_usI_ot (g := 92) (h := 90) (by omega)]
          exact hx2.1 t ht
        · rw [if_neg (by omega), Nat.sub_self]
          exact Int.dvd_zero _
      · -- a kept row is taken off
        have b31 : b1 < 2 ^ 31 := by omega
        refine w_rdI ml90 rfl (by omega) g1 (w_ifF (rn_neg1 b31) (w_rdI ml90 rfl (by omega) g1 ?_))
        have ech := hE.1 k hks
        have c4 : ∀ (d2 i : Nat) (y : ow_MS), i + d2 = e1 → b1 ≤ i → plI y size → y.1 93 = nI N → px9 y p size N cl0 vv0 d9 → y.2.1 91 k = nI e1 → wkR y p size b (fun j => cur j - ((w % p : Nat) : Int) * rs9 cl0 vv0 b1 (i - b1) j) → fr rdH z y → Tt (fun K t => q_X13_reduced K t 4 (nI size) (nI p) (nI k) (nI (w % p)) (nI i) 0 0 y) Q := by
          intro d2
          induction d2 with
          | zero =>
            intro i y hi hib hI h93 hx h91 hw hf
            have ei : i = e1 := by omega
            rw [ei] at hw
            refine u_X13_reduced_4 ?_; unfold qm_X13_reduced_4
            refine w_rdI ml91 rfl (by omega) h91 (w_leT (by omega) (by omega) (c5 _ y (fun j => cur j - ((w % p : Nat) : Int) * d9 k j) hI h93 hx (wkR_cg hw (Nat.le_refl _) (fun j hj => ?_)) (fun j hj => ?_) ?_ hf))
            · have := Int.dvd_neg.mpr (dvr9 ((w % p : Nat) : Int) (g5 j hj))
              rw [show -(((w % p : Nat) : Int) * (rs9 cl0 vv0 b1 (e1 - b1) j - d9 k j)) = cur j - ((w % p : Nat) : Int) * rs9 cl0 vv0 b1 (e1 - b1) j - (cur j - ((w % p : Nat) : Int) * d9 k j) by rw [Int.mul_sub]; omega] at this
              exact this
            · by_cases q : j = k
              · rw [q]
                have := Int.dvd_neg.mpr (Int.dvd_add (md_dv _ hwd) (dvr9 ((w % p : Nat) : Int) g6))
                rw [show -(((w % p : Nat) : Int) - cur k + ((w % p : Nat) : Int) * (d9 k k - 1)) = cur k - ((w % p : Nat) : Int) * d9 k k by rw [Int.mul_sub, Int.mul_one]; omega] at this
                exact this
              · exact Int.dvd_sub (hz0 j (by omega)) (dvr9 _ (ech.1 j (by omega)))
            · refine sp_q (fun j _ => ?_) (sp_a hsp (sp_m ((w % p : Nat) : Int) (sp_in (rwl_in hks))))
              rw [show M9 n j - (cur j - ((w % p : Nat) : Int) * d9 k j) - (M9 n j - cur j + ((w % p : Nat) : Int) * d9 k j) = 0 by omega]
              exact Int.dvd_zero _
          | succ d2 ih4 =>
            intro i y hi hib hI h93 hx h91 hw hf
            obtain ⟨o3, o1, o2⟩ := hx.1 i (by omega)
            obtain ⟨w5, e5, h5, d5⟩ := hw (cl0 i) o1
            have hmul : w5 + (p - w % p) * vv0 i < 2 ^ 31 := by
              have := Nat.mul_le_mul (show p - w % p ≤ 997 by omega) (show vv0 i ≤ 1023 by omega)
              omega
            have hro : (w5 + (p - w % p) * vv0 i) % p < p := Nat.mod_lt _ (by omega)
            refine u_X13_reduced_4 ?_; unfold qm_X13_reduced_4
            refine w_rdI ml91 rfl (by omega) h91 (w_leF (by omega) (by omega) (w_rdI ml92 rfl (by omega) o3 ?_))
            rw [shr10 (by omega), show (1024 * cl0 i + vv0 i) / 1024 = cl0 i by omega]
            refine w_rdI ml89 rfl (by omega) e5 (w_rdI ml92 rfl (by omega) o3 (w_nzI hpz ?_))
            rw [and1023 (by omega), show (1024 * cl0 i + vv0 i) % 1024 = vv0 i by omega, show nI p - nI (w % p) = nI (p - w % p) from pk_sub (by omega), pk_mul, nI_add, pk_rem hmul (by omega) (by omega), nI_1]
            refine w_wrI ml89 rfl (by omega) (ih4 (i + 1) _ (by omega) (by omega) (plI_89 (fr_I rfl) hI) h93 (px_fr (fr_I (P := fun g => g = 89) rfl) (by omega) hx) (rd_ot (by omega) h91) (fun t ht => ?_) (fr_I2 hf (by unfold rdH; omega)))
            dsimp only at d5 ⊢
            rw [show i + 1 - b1 = (i - b1) + 1 by omega, rs_s, show b1 + (i - b1) = i by omega]
            by_cases htc : t = cl0 i
            · refine ⟨(w5 + (p - w % p) * vv0 i) % p, by rw [htc, po_usI_at], by omega, ?_⟩
              rw [if_pos htc.symm, htc]
              have m2 : (p : Int) ∣ (p : Int) * (vv0 i : Int) := Int.dvd_mul_right _ _
              have e9 : ((w5 + (p - w % p) * vv0 i : Nat) : Int) = (w5 : Int) + ((p : Int) * vv0 i - ((w % p : Nat) : Int) * vv0 i) := by
                rw [Int.natCast_add, Int.natCast_mul, Int.ofNat_sub (show w % p ≤ p by omega), Int.sub_mul]
              refine md_dv _ ?_
              rw [e9]
              have := Int.dvd_add d5 m2
              rw [show (w5 : Int) - (cur (cl0 i) - ((w % p : Nat) : Int) * rs9 cl0 vv0 b1 (i - b1) (cl0 i)) + (p : Int) * vv0 i = (w5 : Int) + ((p : Int) * vv0 i - ((w % p : Nat) : Int) * vv0 i) - (cur (cl0 i) - ((w % p : Nat) : Int) * (rs9 cl0 vv0 b1 (i - b1) (cl0 i) + (vv0 i : Int))) by rw [Int.mul_add]; omega] at this
              exact this
            · obtain ⟨w6, e6, h6, d6⟩ := hw t ht
              refine ⟨w6, rd_ne htc e6, h6, ?_⟩
              rw [if_neg (fun h9 => htc h9.symm), Int.add_zero]
              exact d6
        refine c4 (e1 - b1) b1 _ (by omega) (Nat.le_refl _) hI2' n1 hx2 g2 (wkR_cg hw2 (Nat.le_refl _) (fun j hj => ?_)) hf2
        rw [Nat.sub_self, show cur j - (cur j - ((w % p : Nat) : Int) * rs9 cl0 vv0 b1 0 j) = ((w % p : Nat) : Int) * 0 by show cur j - (cur j - ((w % p : Nat) : Int) * 0) = _; omega, Int.mul_zero]
        exact Int.dvd_zero _
  refine e_X13_reduced ?_
  refine u_X13_reduced_0 ?_; unfold qm_X13_reduced_0
  refine c1 size 0 z (M9 n) (by omega) hI h93 hx hw (fun j hj => absurd hj (Nat.not_lt_zero _)) (sp_q (fun j _ => ?_) sp_0) fr_rf
  rw [show M9 n j - M9 n j - 0 = 0 by omega]
  exact Int.dvd_zero _
end XCK6
