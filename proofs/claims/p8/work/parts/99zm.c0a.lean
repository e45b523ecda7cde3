/-! Arcs() by handles -/
theorem nk_mkD {A : Nat → Prop} {M : List Nat} {u : Nat → Nat} {f : Nat → va_E} (hn : M.Nodup) (hi : ∀ g, g ∈ M → ∀ h, h ∈ M → u g = u h → g = h) (hA : ∀ h, h ∈ M → A (u h)) : va_D A (M.map (fun h => (u h, f h))) := by
  refine ⟨fun i j x y hi9 hj9 e => ?_, fun k x hk => ?_⟩
  · rw [List.getElem?_map] at hi9 hj9
    cases hg : M[i]? with
    | none => rw [hg] at hi9; cases hi9
    | some g =>
      cases hh : M[j]? with
      | none => rw [hh] at hj9; cases hj9
      | some h =>
        rw [hg] at hi9
        rw [hh] at hj9
        have e1 : u g = x.1 := congrArg Prod.fst (Option.some.inj hi9)
        have e2 : u h = y.1 := congrArg Prod.fst (Option.some.inj hj9)
        have e3 : g = h := hi g (List.mem_of_getElem? hg) h (List.mem_of_getElem? hh) (by rw [e1, e2, e])
        subst e3
        exact tw_ndj hn hg hh
  · rw [List.getElem?_map] at hk
    cases hg : M[k]? with
    | none => rw [hg] at hk; cases hk
    | some g =>
      rw [hg] at hk
      have e9 := congrArg Prod.fst (Option.some.inj hk)
      rw [← e9]
      exact hA g (List.mem_of_getElem? hg)
def xF0 (h : Nat) : Nat × Nat × List (Nat × Nat) := if h = 53001 then (0, 24, []) else (cX vl0).2 h
def xl0 : List Nat := [41000, 41001, 41003, 42001, 42002, 42003, 42004, 42005, 42006, 42007, 42008, 42009, 42010, 42011, 42012, 41004, 41006, 41007, 41008, 41009, 41011, 41012, 41013, 41014, 41015, 53001]
def xt0_0 : ow_Tb := pT xF0 41000 (9, 3, pfs (cX_o0 41000) 0) (xl0.take 1)
def xt0_1 : ow_Tb := pT xF0 41000 (9, 3, pfs (cX_o0 41000) 1) (xl0.take 2)
def xt0_2 : ow_Tb := pT xF0 41000 (9, 3, pfs (cX_o0 41000) 3) (xl0.take 15)
def xt0_3 : ow_Tb := pT xF0 41000 (9, 3, pfs (cX_o0 41000) 4) (xl0.take 16)
def xt0_4 : ow_Tb := pT xF0 41000 (9, 3, pfs (cX_o0 41000) 6) (xl0.take 17)
def xt0_5 : ow_Tb := pT xF0 41000 (9, 3, pfs (cX_o0 41000) 7) (xl0.take 18)
def xt0_6 : ow_Tb := pT xF0 41000 (9, 3, pfs (cX_o0 41000) 8) (xl0.take 19)
def xt0_7 : ow_Tb := pT xF0 41000 (9, 3, pfs (cX_o0 41000) 9) (xl0.take 20)
def xt0_8 : ow_Tb := pT xF0 41000 (9, 3, pfs (cX_o0 41000) 11) (xl0.take 21)
def xt0_9 : ow_Tb := pT xF0 41000 (9, 3, pfs (cX_o0 41000) 12) (xl0.take 22)
def xt0_10 : ow_Tb := pT xF0 41000 (9, 3, pfs (cX_o0 41000) 13) (xl0.take 23)
def xt0_11 : ow_Tb := pT xF0 41000 (9, 3, pfs (cX_o0 41000) 14) (xl0.take 24)
def xt0_12 : ow_Tb := pT xF0 41000 (9, 3, pfs (cX_o0 41000) 15) (xl0.take 25)
theorem ck0_0 : (ax_chk xt0_0 xt0_1 41000 0 41001 [41001] && ok_row xt0_0) = true := by decide +kernel
theorem ck0_1 : (ax_chk xt0_1 xt0_2 41000 2 41003 [41003, 42001, 42002, 42003, 42004, 42005, 42006, 42007, 42008, 42009, 42010, 42011, 42012] && ok_row xt0_1) = true := by decide +kernel
theorem ck0_2 : (ax_chk xt0_2 xt0_3 41000 3 41004 [41004] && ok_row xt0_2) = true := by decide +kernel
theorem ck0_3 : (ax_chk xt0_3 xt0_4 41000 5 41006 [41006] && ok_row xt0_3) = true := by decide +kernel
theorem ck0_4 : (ax_chk xt0_4 xt0_5 41000 6 41007 [41007] && ok_row xt0_4) = true := by decide +kernel
theorem ck0_5 : (ax_chk xt0_5 xt0_6 41000 7 41008 [41008] && ok_row xt0_5) = true := by decide +kernel
theorem ck0_6 : (ax_chk xt0_6 xt0_7 41000 8 41009 [41009] && ok_row xt0_6) = true := by decide +kernel
theorem ck0_7 : (ax_chk xt0_7 xt0_8 41000 10 41011 [41011] && ok_row xt0_7) = true := by decide +kernel
theorem ck0_8 : (ax_chk xt0_8 xt0_9 41000 11 41012 [41012] && ok_row xt0_8) = true := by decide +kernel
theorem ck0_9 : (ax_chk xt0_9 xt0_10 41000 12 41013 [41013] && ok_row xt0_9) = true := by decide +kernel
theorem ck0_10 : (ax_chk xt0_10 xt0_11 41000 13 41014 [41014] && ok_row xt0_10) = true := by decide +kernel
theorem ck0_11 : (ax_chk xt0_11 xt0_12 41000 14 41015 [41015] && ok_row xt0_11) = true := by decide +kernel
def cT0 : ow_Tb := (xl0, xF0)
def cT0n : ow_Tb := (xl0.take 25, (cX vl0).2)
theorem cT0_ok : uw_ok cT0 := uw_ok_of (ndB_nd (by decide +kernel)) (by decide +kernel)
theorem ck0_L : (aL_chk xt0_12 cT0 53001 && ok_row xt0_12) = true := aL_fast (X1 := cT0) (ndB_nd (by decide +kernel)) (by decide +kernel)
def RI0 : Room := { frames := 2, cells := 25, slots := 1116, locals := 44 }
