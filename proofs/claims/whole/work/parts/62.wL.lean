def Lp_law_18 (nm : String) (g : GT) (b LL : Nat) (xs : Nat → Int32) (c0 s0 : Nat) (v3 : Int32) (I : IT) (J : JT) : Prop := AW (kL nm g b LL xs) c0 s0 18 [(0, .ref b), (1, .ref (ga g 0)), (2, .ref (ga g 118)), (3, .int v3)] [] (cW g I J)
def Lp_law_176 (nm : String) (g : GT) (b LL : Nat) (xs : Nat → Int32) (c0 s0 : Nat) (v3 : Int32) (I : IT) (J : JT) : Prop := AW (kL nm g b LL xs) c0 s0 176 [(0, .ref b), (1, .ref (ga g 0)), (2, .ref (ga g 118)), (3, .int v3)] [] (cW g I J)
def Lp_law_199 (nm : String) (g : GT) (b LL : Nat) (xs : Nat → Int32) (c0 s0 : Nat) (v3 : Int32) (I : IT) (J : JT) : Prop := AW (kL nm g b LL xs) c0 s0 199 [(0, .ref b), (1, .ref (ga g 0)), (2, .ref (ga g 118)), (3, .int v3)] [] (cW g I J)
def Lp_law_212 (nm : String) (g : GT) (b LL : Nat) (xs : Nat → Int32) (c0 s0 : Nat) (v3 : Int32) (I : IT) (J : JT) : Prop := AW (kL nm g b LL xs) c0 s0 212 [(0, .ref b), (1, .ref (ga g 0)), (2, .ref (ga g 118)), (3, .int v3)] [] (cW g I J)
def Lp_law_245 (nm : String) (g : GT) (b LL : Nat) (xs : Nat → Int32) (c0 s0 : Nat) (v3 : Int32) (I : IT) (J : JT) : Prop := AW (kL nm g b LL xs) c0 s0 245 [(0, .ref b), (1, .ref (ga g 0)), (2, .ref (ga g 118)), (3, .int v3)] [] (cW g I J)
def Lp_law_278 (nm : String) (g : GT) (b LL : Nat) (xs : Nat → Int32) (c0 s0 : Nat) (v3 : Int32) (I : IT) (J : JT) : Prop := AW (kL nm g b LL xs) c0 s0 278 [(0, .ref b), (1, .ref (ga g 0)), (2, .ref (ga g 118)), (3, .int v3)] [] (cW g I J)
def Lp_law_301 (nm : String) (g : GT) (b LL : Nat) (xs : Nat → Int32) (c0 s0 : Nat) (v3 : Int32) (I : IT) (J : JT) : Prop := AW (kL nm g b LL xs) c0 s0 301 [(0, .ref b), (1, .ref (ga g 0)), (2, .ref (ga g 118)), (3, .int v3)] [] (cW g I J)
def Lp_law_324 (nm : String) (g : GT) (b LL : Nat) (xs : Nat → Int32) (c0 s0 : Nat) (v3 : Int32) (I : IT) (J : JT) : Prop := AW (kL nm g b LL xs) c0 s0 324 [(0, .ref b), (1, .ref (ga g 0)), (2, .ref (ga g 118)), (3, .int v3)] [] (cW g I J)
def Lp_law_357 (nm : String) (g : GT) (b LL : Nat) (xs : Nat → Int32) (c0 s0 : Nat) (v3 : Int32) (I : IT) (J : JT) : Prop := AW (kL nm g b LL xs) c0 s0 357 [(0, .ref b), (1, .ref (ga g 0)), (2, .ref (ga g 118)), (3, .int v3)] [] (cW g I J)
def Lp_law_400 (nm : String) (g : GT) (b LL : Nat) (xs : Nat → Int32) (c0 s0 : Nat) (v3 : Int32) (I : IT) (J : JT) : Prop := AW (kL nm g b LL xs) c0 s0 400 [(0, .ref b), (1, .ref (ga g 0)), (2, .ref (ga g 118)), (3, .int v3)] [] (cW g I J)
def Lp_law_463 (nm : String) (g : GT) (b LL : Nat) (xs : Nat → Int32) (c0 s0 : Nat) (v3 : Int32) (I : IT) (J : JT) : Prop := AW (kL nm g b LL xs) c0 s0 463 [(0, .ref b), (1, .ref (ga g 0)), (2, .ref (ga g 118)), (3, .int v3)] [] (cW g I J)
def Lp_law_486 (nm : String) (g : GT) (b LL : Nat) (xs : Nat → Int32) (c0 s0 : Nat) (v3 : Int32) (I : IT) (J : JT) : Prop := AW (kL nm g b LL xs) c0 s0 486 [(0, .ref b), (1, .ref (ga g 0)), (2, .ref (ga g 118)), (3, .int v3)] [] (cW g I J)
def Lp_law_509 (nm : String) (g : GT) (b LL : Nat) (xs : Nat → Int32) (c0 s0 : Nat) (v3 : Int32) (I : IT) (J : JT) : Prop := AW (kL nm g b LL xs) c0 s0 509 [(0, .ref b), (1, .ref (ga g 0)), (2, .ref (ga g 118)), (3, .int v3)] [] (cW g I J)
def Lp_law_532 (nm : String) (g : GT) (b LL : Nat) (xs : Nat → Int32) (c0 s0 : Nat) (v3 : Int32) (I : IT) (J : JT) : Prop := AW (kL nm g b LL xs) c0 s0 532 [(0, .ref b), (1, .ref (ga g 0)), (2, .ref (ga g 118)), (3, .int v3)] [] (cW g I J)
def Lp_law_545 (nm : String) (g : GT) (b LL : Nat) (xs : Nat → Int32) (c0 s0 : Nat) (v3 : Int32) (I : IT) (J : JT) : Prop := AW (kL nm g b LL xs) c0 s0 545 [(0, .ref b), (1, .ref (ga g 0)), (2, .ref (ga g 118)), (3, .int v3)] [] (cW g I J)
def Lp_law_568 (nm : String) (g : GT) (b LL : Nat) (xs : Nat → Int32) (c0 s0 : Nat) (v3 : Int32) (I : IT) (J : JT) : Prop := AW (kL nm g b LL xs) c0 s0 568 [(0, .ref b), (1, .ref (ga g 0)), (2, .ref (ga g 118)), (3, .int v3)] [] (cW g I J)
def Lp_law_591 (nm : String) (g : GT) (b LL : Nat) (xs : Nat → Int32) (c0 s0 : Nat) (v3 : Int32) (I : IT) (J : JT) : Prop := AW (kL nm g b LL xs) c0 s0 591 [(0, .ref b), (1, .ref (ga g 0)), (2, .ref (ga g 118)), (3, .int v3)] [] (cW g I J)
def Lp_law_614 (nm : String) (g : GT) (b LL : Nat) (xs : Nat → Int32) (c0 s0 : Nat) (v3 : Int32) (I : IT) (J : JT) : Prop := AW (kL nm g b LL xs) c0 s0 614 [(0, .ref b), (1, .ref (ga g 0)), (2, .ref (ga g 118)), (3, .int v3)] [] (cW g I J)
def Lp_law_637 (nm : String) (g : GT) (b LL : Nat) (xs : Nat → Int32) (c0 s0 : Nat) (v3 : Int32) (I : IT) (J : JT) : Prop := AW (kL nm g b LL xs) c0 s0 637 [(0, .ref b), (1, .ref (ga g 0)), (2, .ref (ga g 118)), (3, .int v3)] [] (cW g I J)
def Lp_law_690 (nm : String) (g : GT) (b LL : Nat) (xs : Nat → Int32) (c0 s0 : Nat) (v3 : Int32) (I : IT) (J : JT) : Prop := AW (kL nm g b LL xs) c0 s0 690 [(0, .ref b), (1, .ref (ga g 0)), (2, .ref (ga g 118)), (3, .int v3)] [] (cW g I J)
def Lp_law_713 (nm : String) (g : GT) (b LL : Nat) (xs : Nat → Int32) (c0 s0 : Nat) (v3 : Int32) (I : IT) (J : JT) : Prop := AW (kL nm g b LL xs) c0 s0 713 [(0, .ref b), (1, .ref (ga g 0)), (2, .ref (ga g 118)), (3, .int v3)] [] (cW g I J)
def Lp_law_746 (nm : String) (g : GT) (b LL : Nat) (xs : Nat → Int32) (c0 s0 : Nat) (v3 : Int32) (I : IT) (J : JT) : Prop := AW (kL nm g b LL xs) c0 s0 746 [(0, .ref b), (1, .ref (ga g 0)), (2, .ref (ga g 118)), (3, .int v3)] [] (cW g I J)
def Lp_law_769 (nm : String) (g : GT) (b LL : Nat) (xs : Nat → Int32) (c0 s0 : Nat) (v3 : Int32) (I : IT) (J : JT) : Prop := AW (kL nm g b LL xs) c0 s0 769 [(0, .ref b), (1, .ref (ga g 0)), (2, .ref (ga g 118)), (3, .int v3)] [] (cW g I J)
def Lp_law_822 (nm : String) (g : GT) (b LL : Nat) (xs : Nat → Int32) (c0 s0 : Nat) (v3 : Int32) (I : IT) (J : JT) : Prop := AW (kL nm g b LL xs) c0 s0 822 [(0, .ref b), (1, .ref (ga g 0)), (2, .ref (ga g 118)), (3, .int v3)] [] (cW g I J)
def Lp_law_865 (nm : String) (g : GT) (b LL : Nat) (xs : Nat → Int32) (c0 s0 : Nat) (v3 : Int32) (I : IT) (J : JT) : Prop := AW (kL nm g b LL xs) c0 s0 865 [(0, .ref b), (1, .ref (ga g 0)), (2, .ref (ga g 118)), (3, .int v3)] [] (cW g I J)
def Lp_law_908 (nm : String) (g : GT) (b LL : Nat) (xs : Nat → Int32) (c0 s0 : Nat) (v3 : Int32) (I : IT) (J : JT) : Prop := AW (kL nm g b LL xs) c0 s0 908 [(0, .ref b), (1, .ref (ga g 0)), (2, .ref (ga g 118)), (3, .int v3)] [] (cW g I J)
def Lp_law_931 (nm : String) (g : GT) (b LL : Nat) (xs : Nat → Int32) (c0 s0 : Nat) (v3 : Int32) (I : IT) (J : JT) : Prop := AW (kL nm g b LL xs) c0 s0 931 [(0, .ref b), (1, .ref (ga g 0)), (2, .ref (ga g 118)), (3, .int v3)] [] (cW g I J)
def Lp_law_1015 (nm : String) (g : GT) (b LL : Nat) (xs : Nat → Int32) (c0 s0 : Nat) (v3 : Int32) (I : IT) (J : JT) : Prop := AW (kL nm g b LL xs) c0 s0 1015 [(0, .ref b), (1, .ref (ga g 0)), (2, .ref (ga g 118)), (3, .int v3)] [] (cW g I J)
def Lp_law_1078 (nm : String) (g : GT) (b LL : Nat) (xs : Nat → Int32) (c0 s0 : Nat) (v3 : Int32) (I : IT) (J : JT) : Prop := AW (kL nm g b LL xs) c0 s0 1078 [(0, .ref b), (1, .ref (ga g 0)), (2, .ref (ga g 118)), (3, .int v3)] [] (cW g I J)
def Lp_law_1153 (nm : String) (g : GT) (b LL : Nat) (xs : Nat → Int32) (c0 s0 : Nat) (v3 : Int32) (I : IT) (J : JT) : Prop := AW (kL nm g b LL xs) c0 s0 1153 [(0, .ref b), (1, .ref (ga g 0)), (2, .ref (ga g 118)), (3, .int v3)] [] (cW g I J)
def Lp_law_1240 (nm : String) (g : GT) (b LL : Nat) (xs : Nat → Int32) (c0 s0 : Nat) (v3 : Int32) (I : IT) (J : JT) : Prop := AW (kL nm g b LL xs) c0 s0 1240 [(0, .ref b), (1, .ref (ga g 0)), (2, .ref (ga g 118)), (3, .int v3)] [] (cW g I J)
def Lp_law_1327 (nm : String) (g : GT) (b LL : Nat) (xs : Nat → Int32) (c0 s0 : Nat) (v3 : Int32) (I : IT) (J : JT) : Prop := AW (kL nm g b LL xs) c0 s0 1327 [(0, .ref b), (1, .ref (ga g 0)), (2, .ref (ga g 118)), (3, .int v3)] [] (cW g I J)
def Lp_law_1414 (nm : String) (g : GT) (b LL : Nat) (xs : Nat → Int32) (c0 s0 : Nat) (v3 : Int32) (I : IT) (J : JT) : Prop := AW (kL nm g b LL xs) c0 s0 1414 [(0, .ref b), (1, .ref (ga g 0)), (2, .ref (ga g 118)), (3, .int v3)] [] (cW g I J)
def VC_law_18 (nm : String) (g : GT) (b LL : Nat) (xs : Nat → Int32) (c0 s0 : Nat) (v3 : Int32) (I : IT) (J : JT) : Prop :=
  ((((Int32.ofNat LL) - 8) < v3 → True) ∧ (¬ ((Int32.ofNat LL) - 8) < v3 → (vp_in v3 LL ∧ ((((xs v3.toNatClampNeg) &&& 31) = 0 → (Lp_law_176 nm g b LL xs c0 s0 v3 I J)) ∧ (((xs v3.toNatClampNeg) &&& 31) = 1 → (Lp_law_199 nm g b LL xs c0 s0 v3 I J)) ∧ (((xs v3.toNatClampNeg) &&& 31) = 2 → (Lp_law_212 nm g b LL xs c0 s0 v3 I J)) ∧ (((xs v3.toNatClampNeg) &&& 31) = 3 → (Lp_law_245 nm g b LL xs c0 s0 v3 I J)) ∧ (((xs v3.toNatClampNeg) &&& 31) = 4 → (Lp_law_278 nm g b LL xs c0 s0 v3 I J)) ∧ (((xs v3.toNatClampNeg) &&& 31) = 5 → (Lp_law_301 nm g b LL xs c0 s0 v3 I J)) ∧ (((xs v3.toNatClampNeg) &&& 31) = 6 → (Lp_law_324 nm g b LL xs c0 s0 v3 I J)) ∧ (((xs v3.toNatClampNeg) &&& 31) = 7 → (Lp_law_357 nm g b LL xs c0 s0 v3 I J)) ∧ (((xs v3.toNatClampNeg) &&& 31) = 8 → (Lp_law_400 nm g b LL xs c0 s0 v3 I J)) ∧ (((xs v3.toNatClampNeg) &&& 31) = 9 → (Lp_law_463 nm g b LL xs c0 s0 v3 I J)) ∧ (((xs v3.toNatClampNeg) &&& 31) = 10 → (Lp_law_486 nm g b LL xs c0 s0 v3 I J)) ∧ (((xs v3.toNatClampNeg) &&& 31) = 11 → (Lp_law_509 nm g b LL xs c0 s0 v3 I J)) ∧ (((xs v3.toNatClampNeg) &&& 31) = 12 → (Lp_law_532 nm g b LL xs c0 s0 v3 I J)) ∧ (((xs v3.toNatClampNeg) &&& 31) = 13 → (Lp_law_545 nm g b LL xs c0 s0 v3 I J)) ∧ (((xs v3.toNatClampNeg) &&& 31) = 14 → (Lp_law_568 nm g b LL xs c0 s0 v3 I J)) ∧ (((xs v3.toNatClampNeg) &&& 31) = 15 → (Lp_law_591 nm g b LL xs c0 s0 v3 I J)) ∧ (((xs v3.toNatClampNeg) &&& 31) = 16 → (Lp_law_614 nm g b LL xs c0 s0 v3 I J)) ∧ (((xs v3.toNatClampNeg) &&& 31) = 17 → (Lp_law_637 nm g b LL xs c0 s0 v3 I J)) ∧ (((xs v3.toNatClampNeg) &&& 31) = 18 → (Lp_law_690 nm g b LL xs c0 s0 v3 I J)) ∧ (((xs v3.toNatClampNeg) &&& 31) = 19 → (Lp_law_713 nm g b LL xs c0 s0 v3 I J)) ∧ (((xs v3.toNatClampNeg) &&& 31) = 20 → (Lp_law_746 nm g b LL xs c0 s0 v3 I J)) ∧ (((xs v3.toNatClampNeg) &&& 31) = 21 → (Lp_law_769 nm g b LL xs c0 s0 v3 I J)) ∧ (((xs v3.toNatClampNeg) &&& 31) = 22 → (Lp_law_822 nm g b LL xs c0 s0 v3 I J)) ∧ (((xs v3.toNatClampNeg) &&& 31) = 23 → (Lp_law_865 nm g b LL xs c0 s0 v3 I J)) ∧ (((xs v3.toNatClampNeg) &&& 31) = 24 → (Lp_law_908 nm g b LL xs c0 s0 v3 I J)) ∧ (((xs v3.toNatClampNeg) &&& 31) = 25 → (Lp_law_931 nm g b LL xs c0 s0 v3 I J)) ∧ (((xs v3.toNatClampNeg) &&& 31) = 26 → (Lp_law_1015 nm g b LL xs c0 s0 v3 I J)) ∧ (((xs v3.toNatClampNeg) &&& 31) = 27 → (Lp_law_1078 nm g b LL xs c0 s0 v3 I J)) ∧ (((xs v3.toNatClampNeg) &&& 31) = 28 → (Lp_law_1153 nm g b LL xs c0 s0 v3 I J)) ∧ (((xs v3.toNatClampNeg) &&& 31) = 29 → (Lp_law_1240 nm g b LL xs c0 s0 v3 I J)) ∧ (((xs v3.toNatClampNeg) &&& 31) = 30 → (Lp_law_1327 nm g b LL xs c0 s0 v3 I J)) ∧ (((xs v3.toNatClampNeg) &&& 31) = 31 → (Lp_law_1414 nm g b LL xs c0 s0 v3 I J)) ∧ (Lp_law_18 nm g b LL xs c0 s0 (v3 + 8) I J)))))
set_option maxRecDepth 4000 in
theorem w_law_18 {nm : String} {g : GT} {b LL : Nat} {xs : Nat → Int32} {c0 s0 : Nat} {v3 : Int32} {I : IT} {J : JT} (hc0 : c0 ≤ 600000) (hs0 : s0 ≤ 7302250) (hv : VC_law_18 nm g b LL xs c0 s0 v3 I J) : Lp_law_18 nm g b LL xs c0 s0 v3 I J := by
  unfold VC_law_18 at hv
  unfold Lp_law_18
  refine a_iload_n 3 dL_law_18 rfl rfl ?_
  refine a_aload_n 0 dL_law_19 rfl rfl ?_
  refine a_slen dL_law_20 ?_
  refine a_bipush (v := 8) dL_law_21 (by decide) ?_
  refine a_isub dL_law_23 ?_
  refine a_icmp_gt 1443 dL_law_24 rfl (fun hc => ?_) (fun hc => ?_)
  · replace hv := hv.1 hc
    refine a_iconst (v := 1) dL_law_1443 (by decide) ?_
    exact a_lret1 hc0 hs0 dL_law_1444
  · replace hv := hv.2 hc
    refine a_aload_n 0 dL_law_27 rfl rfl ?_
    refine a_iload_n 3 dL_law_28 rfl rfl ?_
    refine a_sld hv.1 dL_law_29 ?_
    replace hv := hv.2
    refine a_bipush (v := 31) dL_law_30 (by decide) ?_
    refine a_iand dL_law_32 ?_
    by_cases hq0 : ((xs v3.toNatClampNeg) &&& 31) = 0
    · replace hv := hv.1 hq0
      refine a_tabIn (off := 143) 176 dL_law_33 (by rw [hq0]; decide) (by rw [hq0]; decide) (by rw [hq0]; decide) rfl ?_
      exact a_sub [0, 1, 2, 3] rfl hv
    replace hv := hv.2
    by_cases hq1 : ((xs v3.toNatClampNeg) &&& 31) = 1
    · replace hv := hv.1 hq1
      refine a_tabIn (off := 166) 199 dL_law_33 (by rw [hq1]; decide) (by rw [hq1]; decide) (by rw [hq1]; decide) rfl ?_
      exact a_sub [0, 1, 2, 3] rfl hv
    replace hv := hv.2
    by_cases hq2 : ((xs v3.toNatClampNeg) &&& 31) = 2
    · replace hv := hv.1 hq2
      refine a_tabIn (off := 179) 212 dL_law_33 (by rw [hq2]; decide) (by rw [hq2]; decide) (by rw [hq2]; decide) rfl ?_
      exact a_sub [0, 1, 2, 3] rfl hv
    replace hv := hv.2
    by_cases hq3 : ((xs v3.toNatClampNeg) &&& 31) = 3
    · replace hv := hv.1 hq3
      refine a_tabIn (off := 212) 245 dL_law_33 (by rw [hq3]; decide) (by rw [hq3]; decide) (by rw [hq3]; decide) rfl ?_
      exact a_sub [0, 1, 2, 3] rfl hv
    replace hv := hv.2
    by_cases hq4 : ((xs v3.toNatClampNeg) &&& 31) = 4
    · replace hv := hv.1 hq4
      refine a_tabIn (off := 245) 278 dL_law_33 (by rw [hq4]; decide) (by rw [hq4]; decide) (by rw [hq4]; decide) rfl ?_
      exact a_sub [0, 1, 2, 3] rfl hv
    replace hv := hv.2
    by_cases hq5 : ((xs v3.toNatClampNeg) &&& 31) = 5
    · replace hv := hv.1 hq5
      refine a_tabIn (off := 268) 301 dL_law_33 (by rw [hq5]; decide) (by rw [hq5]; decide) (by rw [hq5]; decide) rfl ?_
      exact a_sub [0, 1, 2, 3] rfl hv
    replace hv := hv.2
    by_cases hq6 : ((xs v3.toNatClampNeg) &&& 31) = 6
    · replace hv := hv.1 hq6
      refine a_tabIn (off := 291) 324 dL_law_33 (by rw [hq6]; decide) (by rw [hq6]; decide) (by rw [hq6]; decide) rfl ?_
      exact a_sub [0, 1, 2, 3] rfl hv
    replace hv := hv.2
    by_cases hq7 : ((xs v3.toNatClampNeg) &&& 31) = 7
    · replace hv := hv.1 hq7
      refine a_tabIn (off := 324) 357 dL_law_33 (by rw [hq7]; decide) (by rw [hq7]; decide) (by rw [hq7]; decide) rfl ?_
      exact a_sub [0, 1, 2, 3] rfl hv
    replace hv := hv.2
    by_cases hq8 : ((xs v3.toNatClampNeg) &&& 31) = 8
    · replace hv := hv.1 hq8
      refine a_tabIn (off := 367) 400 dL_law_33 (by rw [hq8]; decide) (by rw [hq8]; decide) (by rw [hq8]; decide) rfl ?_
      exact a_sub [0, 1, 2, 3] rfl hv
    replace hv := hv.2
    by_cases hq9 : ((xs v3.toNatClampNeg) &&& 31) = 9
    · replace hv := hv.1 hq9
      refine a_tabIn (off := 430) 463 dL_law_33 (by rw [hq9]; decide) (by rw [hq9]; decide) (by rw [hq9]; decide) rfl ?_
      exact a_sub [0, 1, 2, 3] rfl hv
    replace hv := hv.2
    by_cases hq10 : ((xs v3.toNatClampNeg) &&& 31) = 10
    · replace hv := hv.1 hq10
      refine a_tabIn (off := 453) 486 dL_law_33 (by rw [hq10]; decide) (by rw [hq10]; decide) (by rw [hq10]; decide) rfl ?_
      exact a_sub [0, 1, 2, 3] rfl hv
    replace hv := hv.2
    by_cases hq11 : ((xs v3.toNatClampNeg) &&& 31) = 11
    · replace hv := hv.1 hq11
      refine a_tabIn (off := 476) 509 dL_law_33 (by rw [hq11]; decide) (by rw [hq11]; decide) (by rw [hq11]; decide) rfl ?_
      exact a_sub [0, 1, 2, 3] rfl hv
    replace hv := hv.2
    by_cases hq12 : ((xs v3.toNatClampNeg) &&& 31) = 12
    · replace hv := hv.1 hq12
      refine a_tabIn (off := 499) 532 dL_law_33 (by rw [hq12]; decide) (by rw [hq12]; decide) (by rw [hq12]; decide) rfl ?_
      exact a_sub [0, 1, 2, 3] rfl hv
    replace hv := hv.2
    by_cases hq13 : ((xs v3.toNatClampNeg) &&& 31) = 13
    · replace hv := hv.1 hq13
      refine a_tabIn (off := 512) 545 dL_law_33 (by rw [hq13]; decide) (by rw [hq13]; decide) (by rw [hq13]; decide) rfl ?_
      exact a_sub [0, 1, 2, 3] rfl hv
    replace hv := hv.2
    by_cases hq14 : ((xs v3.toNatClampNeg) &&& 31) = 14
    · replace hv := hv.1 hq14
      refine a_tabIn (off := 535) 568 dL_law_33 (by rw [hq14]; decide) (by rw [hq14]; decide) (by rw [hq14]; decide) rfl ?_
      exact a_sub [0, 1, 2, 3] rfl hv
    replace hv := hv.2
    by_cases hq15 : ((xs v3.toNatClampNeg) &&& 31) = 15
    · replace hv := hv.1 hq15
      refine a_tabIn (off := 558) 591 dL_law_33 (by rw [hq15]; decide) (by rw [hq15]; decide) (by rw [hq15]; decide) rfl ?_
      exact a_sub [0, 1, 2, 3] rfl hv
    replace hv := hv.2
    by_cases hq16 : ((xs v3.toNatClampNeg) &&& 31) = 16
    · replace hv := hv.1 hq16
      refine a_tabIn (off := 581) 614 dL_law_33 (by rw [hq16]; decide) (by rw [hq16]; decide) (by rw [hq16]; decide) rfl ?_
      exact a_sub [0, 1, 2, 3] rfl hv
    replace hv := hv.2
    by_cases hq17 : ((xs v3.toNatClampNeg) &&& 31) = 17
    · replace hv := hv.1 hq17
      refine a_tabIn (off := 604) 637 dL_law_33 (by rw [hq17]; decide) (by rw [hq17]; decide) (by rw [hq17]; decide) rfl ?_
      exact a_sub [0, 1, 2, 3] rfl hv
    replace hv := hv.2
    by_cases hq18 : ((xs v3.toNatClampNeg) &&& 31) = 18
    · replace hv := hv.1 hq18
      refine a_tabIn (off := 657) 690 dL_law_33 (by rw [hq18]; decide) (by rw [hq18]; decide) (by rw [hq18]; decide) rfl ?_
      exact a_sub [0, 1, 2, 3] rfl hv
    replace hv := hv.2
    by_cases hq19 : ((xs v3.toNatClampNeg) &&& 31) = 19
    · replace hv := hv.1 hq19
      refine a_tabIn (off := 680) 713 dL_law_33 (by rw [hq19]; decide) (by rw [hq19]; decide) (by rw [hq19]; decide) rfl ?_
      exact a_sub [0, 1, 2, 3] rfl hv
    replace hv := hv.2
    by_cases hq20 : ((xs v3.toNatClampNeg) &&& 31) = 20
    · replace hv := hv.1 hq20
      refine a_tabIn (off := 713) 746 dL_law_33 (by rw [hq20]; decide) (by rw [hq20]; decide) (by rw [hq20]; decide) rfl ?_
      exact a_sub [0, 1, 2, 3] rfl hv
    replace hv := hv.2
    by_cases hq21 : ((xs v3.toNatClampNeg) &&& 31) = 21
    · replace hv := hv.1 hq21
      refine a_tabIn (off := 736) 769 dL_law_33 (by rw [hq21]; decide) (by rw [hq21]; decide) (by rw [hq21]; decide) rfl ?_
      exact a_sub [0, 1, 2, 3] rfl hv
    replace hv := hv.2
    by_cases hq22 : ((xs v3.toNatClampNeg) &&& 31) = 22
    · replace hv := hv.1 hq22
      refine a_tabIn (off := 789) 822 dL_law_33 (by rw [hq22]; decide) (by rw [hq22]; decide) (by rw [hq22]; decide) rfl ?_
      exact a_sub [0, 1, 2, 3] rfl hv
    replace hv := hv.2
    by_cases hq23 : ((xs v3.toNatClampNeg) &&& 31) = 23
    · replace hv := hv.1 hq23
      refine a_tabIn (off := 832) 865 dL_law_33 (by rw [hq23]; decide) (by rw [hq23]; decide) (by rw [hq23]; decide) rfl ?_
      exact a_sub [0, 1, 2, 3] rfl hv
    replace hv := hv.2
    by_cases hq24 : ((xs v3.toNatClampNeg) &&& 31) = 24
    · replace hv := hv.1 hq24
      refine a_tabIn (off := 875) 908 dL_law_33 (by rw [hq24]; decide) (by rw [hq24]; decide) (by rw [hq24]; decide) rfl ?_
      exact a_sub [0, 1, 2, 3] rfl hv
    replace hv := hv.2
    by_cases hq25 : ((xs v3.toNatClampNeg) &&& 31) = 25
    · replace hv := hv.1 hq25
      refine a_tabIn (off := 898) 931 dL_law_33 (by rw [hq25]; decide) (by rw [hq25]; decide) (by rw [hq25]; decide) rfl ?_
      exact a_sub [0, 1, 2, 3] rfl hv
    replace hv := hv.2
    by_cases hq26 : ((xs v3.toNatClampNeg) &&& 31) = 26
    · replace hv := hv.1 hq26
      refine a_tabIn (off := 982) 1015 dL_law_33 (by rw [hq26]; decide) (by rw [hq26]; decide) (by rw [hq26]; decide) rfl ?_
      exact a_sub [0, 1, 2, 3] rfl hv
    replace hv := hv.2
    by_cases hq27 : ((xs v3.toNatClampNeg) &&& 31) = 27
    · replace hv := hv.1 hq27
      refine a_tabIn (off := 1045) 1078 dL_law_33 (by rw [hq27]; decide) (by rw [hq27]; decide) (by rw [hq27]; decide) rfl ?_
      exact a_sub [0, 1, 2, 3] rfl hv
    replace hv := hv.2
    by_cases hq28 : ((xs v3.toNatClampNeg) &&& 31) = 28
    · replace hv := hv.1 hq28
      refine a_tabIn (off := 1120) 1153 dL_law_33 (by rw [hq28]; decide) (by rw [hq28]; decide) (by rw [hq28]; decide) rfl ?_
      exact a_sub [0, 1, 2, 3] rfl hv
    replace hv := hv.2
    by_cases hq29 : ((xs v3.toNatClampNeg) &&& 31) = 29
    · replace hv := hv.1 hq29
      refine a_tabIn (off := 1207) 1240 dL_law_33 (by rw [hq29]; decide) (by rw [hq29]; decide) (by rw [hq29]; decide) rfl ?_
      exact a_sub [0, 1, 2, 3] rfl hv
    replace hv := hv.2
    by_cases hq30 : ((xs v3.toNatClampNeg) &&& 31) = 30
    · replace hv := hv.1 hq30
      refine a_tabIn (off := 1294) 1327 dL_law_33 (by rw [hq30]; decide) (by rw [hq30]; decide) (by rw [hq30]; decide) rfl ?_
      exact a_sub [0, 1, 2, 3] rfl hv
    replace hv := hv.2
    by_cases hq31 : ((xs v3.toNatClampNeg) &&& 31) = 31
    · replace hv := hv.1 hq31
      refine a_tabIn (off := 1381) 1414 dL_law_33 (by rw [hq31]; decide) (by rw [hq31]; decide) (by rw [hq31]; decide) rfl ?_
      exact a_sub [0, 1, 2, 3] rfl hv
    replace hv := hv.2
    refine a_tabOut 1437 dL_law_33 (by have q0 := tI_ne (c := 0) (n := 0) (by decide) hq0; have q1 := tI_ne (c := 1) (n := 1) (by decide) hq1; have q2 := tI_ne (c := 2) (n := 2) (by decide) hq2; have q3 := tI_ne (c := 3) (n := 3) (by decide) hq3; have q4 := tI_ne (c := 4) (n := 4) (by decide) hq4; have q5 := tI_ne (c := 5) (n := 5) (by decide) hq5; have q6 := tI_ne (c := 6) (n := 6) (by decide) hq6; have q7 := tI_ne (c := 7) (n := 7) (by decide) hq7; have q8 := tI_ne (c := 8) (n := 8) (by decide) hq8; have q9 := tI_ne (c := 9) (n := 9) (by decide) hq9; have q10 := tI_ne (c := 10) (n := 10) (by decide) hq10; have q11 := tI_ne (c := 11) (n := 11) (by decide) hq11; have q12 := tI_ne (c := 12) (n := 12) (by decide) hq12; have q13 := tI_ne (c := 13) (n := 13) (by decide) hq13; have q14 := tI_ne (c := 14) (n := 14) (by decide) hq14; have q15 := tI_ne (c := 15) (n := 15) (by decide) hq15; have q16 := tI_ne (c := 16) (n := 16) (by decide) hq16; have q17 := tI_ne (c := 17) (n := 17) (by decide) hq17; have q18 := tI_ne (c := 18) (n := 18) (by decide) hq18; have q19 := tI_ne (c := 19) (n := 19) (by decide) hq19; have q20 := tI_ne (c := 20) (n := 20) (by decide) hq20; have q21 := tI_ne (c := 21) (n := 21) (by decide) hq21; have q22 := tI_ne (c := 22) (n := 22) (by decide) hq22; have q23 := tI_ne (c := 23) (n := 23) (by decide) hq23; have q24 := tI_ne (c := 24) (n := 24) (by decide) hq24; have q25 := tI_ne (c := 25) (n := 25) (by decide) hq25; have q26 := tI_ne (c := 26) (n := 26) (by decide) hq26; have q27 := tI_ne (c := 27) (n := 27) (by decide) hq27; have q28 := tI_ne (c := 28) (n := 28) (by decide) hq28; have q29 := tI_ne (c := 29) (n := 29) (by decide) hq29; have q30 := tI_ne (c := 30) (n := 30) (by decide) hq30; have q31 := tI_ne (c := 31) (n := 31) (by decide) hq31; omega) rfl ?_
    refine a_iinc 3 (v3 + 8) [(3, .int (v3 + 8)), (0, .ref b), (1, .ref (ga g 0)), (2, .ref (ga g 118))] dL_law_1437 rfl rfl (Nat.le_of_ble_eq_true rfl) rfl ?_
    refine a_goto 18 dL_law_1440 rfl ?_
    exact a_sub [1, 2, 3, 0] rfl hv
def VC_law_176 (nm : String) (g : GT) (b LL : Nat) (xs : Nat → Int32) (c0 s0 : Nat) (v3 : Int32) (I : IT) (J : JT) : Prop :=
  (vp_in (v3 + 1) LL ∧ (SemI g 40 M_X7_feed [.ref (ga g 0), .int (xs (v3 + 1).toNatClampNeg)] I J (fun r182 I182 J182 => (vp_in (v3 + 1) LL ∧ (SemI g 40 M_X8_feed [.ref (ga g 118), .int (xs (v3 + 1).toNatClampNeg)] I182 J182 (fun r191 I191 J191 => ((r182 = r191 → (Lp_law_18 nm g b LL xs c0 s0 (v3 + 8) I191 J191)) ∧ (¬ r182 = r191 → False))))))))
set_option maxRecDepth 4000 in
theorem w_law_176 {nm : String} {g : GT} {b LL : Nat} {xs : Nat → Int32} {c0 s0 : Nat} {v3 : Int32} {I : IT} {J : JT} (hc0 : c0 ≤ 600000) (hs0 : s0 ≤ 7302250) (hv : VC_law_176 nm g b LL xs c0 s0 v3 I J) : Lp_law_176 nm g b LL xs c0 s0 v3 I J := by
  unfold VC_law_176 at hv
  unfold Lp_law_176
  refine a_aload_n 1 dL_law_176 rfl rfl ?_
  refine a_aload_n 0 dL_law_177 rfl rfl ?_
  refine a_iload_n 3 dL_law_178 rfl rfl ?_
  refine a_iconst (v := 1) dL_law_179 (by decide) ?_
  refine a_iadd dL_law_180 ?_
  refine a_sld hv.1 dL_law_181 ?_
  replace hv := hv.2
  refine c_VI (As := [.int (xs (v3 + 1).toNatClampNeg)]) (rest := []) hv K_L_13 sh_0 rfl rfl rfl (Nat.le_of_ble_eq_true rfl) ⟨Nat.le_of_ble_eq_true rfl, Nat.le_of_ble_eq_true rfl⟩ ⟨hc0, hs0⟩ dL_law_182 (fun r182 I182 J182 hv => ?_)
  refine a_aload_n 2 dL_law_185 rfl rfl ?_
  refine a_aload_n 0 dL_law_186 rfl rfl ?_
  refine a_iload_n 3 dL_law_187 rfl rfl ?_
  refine a_iconst (v := 1) dL_law_188 (by decide) ?_
  refine a_iadd dL_law_189 ?_
  refine a_sld hv.1 dL_law_190 ?_
  replace hv := hv.2
  refine c_VI (As := [.int (xs (v3 + 1).toNatClampNeg)]) (rest := [.int r182]) hv K_L_17 sh_118 rfl rfl rfl (Nat.le_of_ble_eq_true rfl) ⟨Nat.le_of_ble_eq_true rfl, Nat.le_of_ble_eq_true rfl⟩ ⟨hc0, hs0⟩ dL_law_191 (fun r191 I191 J191 hv => ?_)
  refine a_icmp_eq 1437 dL_law_194 rfl (fun hc => ?_) (fun hc => ?_)
  · replace hv := hv.1 hc
    refine a_iinc 3 (v3 + 8) [(3, .int (v3 + 8)), (0, .ref b), (1, .ref (ga g 0)), (2, .ref (ga g 118))] dL_law_1437 rfl rfl (Nat.le_of_ble_eq_true rfl) rfl ?_
    refine a_goto 18 dL_law_1440 rfl ?_
    exact a_sub [1, 2, 3, 0] rfl hv
  · replace hv := hv.2 hc
    refine a_iconst (v := 0) dL_law_197 (by decide) ?_
    exact hv.elim
def VC_law_199 (nm : String) (g : GT) (b LL : Nat) (xs : Nat → Int32) (c0 s0 : Nat) (v3 : Int32) (I : IT) (J : JT) : Prop :=
  (SemI g 40 M_X7_fleet [.ref (ga g 0)] I J (fun r200 I200 J200 => (SemI g 40 M_X8_fleet [.ref (ga g 118)] I200 J200 (fun r204 I204 J204 => ((r200 = r204 → (Lp_law_18 nm g b LL xs c0 s0 (v3 + 8) I204 J204)) ∧ (¬ r200 = r204 → False))))))
set_option maxRecDepth 4000 in
theorem w_law_199 {nm : String} {g : GT} {b LL : Nat} {xs : Nat → Int32} {c0 s0 : Nat} {v3 : Int32} {I : IT} {J : JT} (hc0 : c0 ≤ 600000) (hs0 : s0 ≤ 7302250) (hv : VC_law_199 nm g b LL xs c0 s0 v3 I J) : Lp_law_199 nm g b LL xs c0 s0 v3 I J := by
  unfold VC_law_199 at hv
  unfold Lp_law_199
  refine a_aload_n 1 dL_law_199 rfl rfl ?_
  refine c_VI (As := []) (rest := []) hv K_L_18 sh_0 rfl rfl rfl (Nat.le_of_ble_eq_true rfl) ⟨Nat.le_of_ble_eq_true rfl, Nat.le_of_ble_eq_true rfl⟩ ⟨hc0, hs0⟩ dL_law_200 (fun r200 I200 J200 hv => ?_)
  refine a_aload_n 2 dL_law_203 rfl rfl ?_
  refine c_VI (As := []) (rest := [.int r200]) hv K_L_22 sh_118 rfl rfl rfl (Nat.le_of_ble_eq_true rfl) ⟨Nat.le_of_ble_eq_true rfl, Nat.le_of_ble_eq_true rfl⟩ ⟨hc0, hs0⟩ dL_law_204 (fun r204 I204 J204 hv => ?_)
  refine a_icmp_eq 1437 dL_law_207 rfl (fun hc => ?_) (fun hc => ?_)
  · replace hv := hv.1 hc
    refine a_iinc 3 (v3 + 8) [(3, .int (v3 + 8)), (0, .ref b), (1, .ref (ga g 0)), (2, .ref (ga g 118))] dL_law_1437 rfl rfl (Nat.le_of_ble_eq_true rfl) rfl ?_
    refine a_goto 18 dL_law_1440 rfl ?_
    exact a_sub [1, 2, 3, 0] rfl hv
  · replace hv := hv.2 hc
    refine a_iconst (v := 0) dL_law_210 (by decide) ?_
    exact hv.elim
def VC_law_212 (nm : String) (g : GT) (b LL : Nat) (xs : Nat → Int32) (c0 s0 : Nat) (v3 : Int32) (I : IT) (J : JT) : Prop :=
  (vp_in (v3 + 1) LL ∧ (vp_in (v3 + 2) LL ∧ (SemI g 40 M_X7_ship [.ref (ga g 0), .int (xs (v3 + 1).toNatClampNeg), .int (xs (v3 + 2).toNatClampNeg)] I J (fun r223 I223 J223 => (vp_in (v3 + 1) LL ∧ (vp_in (v3 + 2) LL ∧ (SemI g 40 M_X8_ship [.ref (ga g 118), .int (xs (v3 + 1).toNatClampNeg), .int (xs (v3 + 2).toNatClampNeg)] I223 J223 (fun r237 I237 J237 => ((r223 = r237 → (Lp_law_18 nm g b LL xs c0 s0 (v3 + 8) I237 J237)) ∧ (¬ r223 = r237 → False))))))))))
set_option maxRecDepth 4000 in
theorem w_law_212 {nm : String} {g : GT} {b LL : Nat} {xs : Nat → Int32} {c0 s0 : Nat} {v3 : Int32} {I : IT} {J : JT} (hc0 : c0 ≤ 600000) (hs0 : s0 ≤ 7302250) (hv : VC_law_212 nm g b LL xs c0 s0 v3 I J) : Lp_law_212 nm g b LL xs c0 s0 v3 I J := by
  unfold VC_law_212 at hv
  unfold Lp_law_212
  refine a_aload_n 1 dL_law_212 rfl rfl ?_
  refine a_aload_n 0 dL_law_213 rfl rfl ?_
  refine a_iload_n 3 dL_law_214 rfl rfl ?_
  refine a_iconst (v := 1) dL_law_215 (by decide) ?_
  refine a_iadd dL_law_216 ?_
  refine a_sld hv.1 dL_law_217 ?_
  replace hv := hv.2
  refine a_aload_n 0 dL_law_218 rfl rfl ?_
  refine a_iload_n 3 dL_law_219 rfl rfl ?_
  refine a_iconst (v := 2) dL_law_220 (by decide) ?_
  refine a_iadd dL_law_221 ?_
  refine a_sld hv.1 dL_law_222 ?_
  replace hv := hv.2
  refine c_VI (As := [.int (xs (v3 + 1).toNatClampNeg), .int (xs (v3 + 2).toNatClampNeg)]) (rest := []) hv K_L_23 sh_0 rfl rfl rfl (Nat.le_of_ble_eq_true rfl) ⟨Nat.le_of_ble_eq_true rfl, Nat.le_of_ble_eq_true rfl⟩ ⟨hc0, hs0⟩ dL_law_223 (fun r223 I223 J223 hv => ?_)
  refine a_aload_n 2 dL_law_226 rfl rfl ?_
  refine a_aload_n 0 dL_law_227 rfl rfl ?_
  refine a_iload_n 3 dL_law_228 rfl rfl ?_
  refine a_iconst (v := 1) dL_law_229 (by decide) ?_
  refine a_iadd dL_law_230 ?_
  refine a_sld hv.1 dL_law_231 ?_
  replace hv := hv.2
  refine a_aload_n 0 dL_law_232 rfl rfl ?_
  refine a_iload_n 3 dL_law_233 rfl rfl ?_
  refine a_iconst (v := 2) dL_law_234 (by decide) ?_
  refine a_iadd dL_law_235 ?_
  refine a_sld hv.1 dL_law_236 ?_
  replace hv := hv.2
  refine c_VI (As := [.int (xs (v3 + 1).toNatClampNeg), .int (xs (v3 + 2).toNatClampNeg)]) (rest := [.int r223]) hv K_L_27 sh_118 rfl rfl rfl (Nat.le_of_ble_eq_true rfl) ⟨Nat.le_of_ble_eq_true rfl, Nat.le_of_ble_eq_true rfl⟩ ⟨hc0, hs0⟩ dL_law_237 (fun r237 I237 J237 hv => ?_)
  refine a_icmp_eq 1437 dL_law_240 rfl (fun hc => ?_) (fun hc => ?_)
  · replace hv := hv.1 hc
    refine a_iinc 3 (v3 + 8) [(3, .int (v3 + 8)), (0, .ref b), (1, .ref (ga g 0)), (2, .ref (ga g 118))] dL_law_1437 rfl rfl (Nat.le_of_ble_eq_true rfl) rfl ?_
    refine a_goto 18 dL_law_1440 rfl ?_
    exact a_sub [1, 2, 3, 0] rfl hv
  · replace hv := hv.2 hc
    refine a_iconst (v := 0) dL_law_243 (by decide) ?_
    exact hv.elim
def VC_law_245 (nm : String) (g : GT) (b LL : Nat) (xs : Nat → Int32) (c0 s0 : Nat) (v3 : Int32) (I : IT) (J : JT) : Prop :=
  (vp_in (v3 + 1) LL ∧ (vp_in (v3 + 2) LL ∧ (SemI g 40 M_X7_as [.ref (ga g 0), .int (xs (v3 + 1).toNatClampNeg), .int (xs (v3 + 2).toNatClampNeg)] I J (fun r256 I256 J256 => (vp_in (v3 + 1) LL ∧ (vp_in (v3 + 2) LL ∧ (SemI g 40 M_X8_as [.ref (ga g 118), .int (xs (v3 + 1).toNatClampNeg), .int (xs (v3 + 2).toNatClampNeg)] I256 J256 (fun r270 I270 J270 => ((r256 = r270 → (Lp_law_18 nm g b LL xs c0 s0 (v3 + 8) I270 J270)) ∧ (¬ r256 = r270 → False))))))))))
set_option maxRecDepth 4000 in
theorem w_law_245 {nm : String} {g : GT} {b LL : Nat} {xs : Nat → Int32} {c0 s0 : Nat} {v3 : Int32} {I : IT} {J : JT} (hc0 : c0 ≤ 600000) (hs0 : s0 ≤ 7302250) (hv : VC_law_245 nm g b LL xs c0 s0 v3 I J) : Lp_law_245 nm g b LL xs c0 s0 v3 I J := by
  unfold VC_law_245 at hv
  unfold Lp_law_245
  refine a_aload_n 1 dL_law_245 rfl rfl ?_
  refine a_aload_n 0 dL_law_246 rfl rfl ?_
  refine a_iload_n 3 dL_law_247 rfl rfl ?_
  refine a_iconst (v := 1) dL_law_248 (by decide) ?_
  refine a_iadd dL_law_249 ?_
  refine a_sld hv.1 dL_law_250 ?_
  replace hv := hv.2
  refine a_aload_n 0 dL_law_251 rfl rfl ?_
  refine a_iload_n 3 dL_law_252 rfl rfl ?_
  refine a_iconst (v := 2) dL_law_253 (by decide) ?_
  refine a_iadd dL_law_254 ?_
  refine a_sld hv.1 dL_law_255 ?_
  replace hv := hv.2
  refine c_VI (As := [.int (xs (v3 + 1).toNatClampNeg), .int (xs (v3 + 2).toNatClampNeg)]) (rest := []) hv K_L_28 sh_0 rfl rfl rfl (Nat.le_of_ble_eq_true rfl) ⟨Nat.le_of_ble_eq_true rfl, Nat.le_of_ble_eq_true rfl⟩ ⟨hc0, hs0⟩ dL_law_256 (fun r256 I256 J256 hv => ?_)
  refine a_aload_n 2 dL_law_259 rfl rfl ?_
  refine a_aload_n 0 dL_law_260 rfl rfl ?_
  refine a_iload_n 3 dL_law_261 rfl rfl ?_
  refine a_iconst (v := 1) dL_law_262 (by decide) ?_
  refine a_iadd dL_law_263 ?_
  refine a_sld hv.1 dL_law_264 ?_
  replace hv := hv.2
  refine a_aload_n 0 dL_law_265 rfl rfl ?_
  refine a_iload_n 3 dL_law_266 rfl rfl ?_
  refine a_iconst (v := 2) dL_law_267 (by decide) ?_
  refine a_iadd dL_law_268 ?_
  refine a_sld hv.1 dL_law_269 ?_
  replace hv := hv.2
  refine c_VI (As := [.int (xs (v3 + 1).toNatClampNeg), .int (xs (v3 + 2).toNatClampNeg)]) (rest := [.int r256]) hv K_L_31 sh_118 rfl rfl rfl (Nat.le_of_ble_eq_true rfl) ⟨Nat.le_of_ble_eq_true rfl, Nat.le_of_ble_eq_true rfl⟩ ⟨hc0, hs0⟩ dL_law_270 (fun r270 I270 J270 hv => ?_)
  refine a_icmp_eq 1437 dL_law_273 rfl (fun hc => ?_) (fun hc => ?_)
  · replace hv := hv.1 hc
    refine a_iinc 3 (v3 + 8) [(3, .int (v3 + 8)), (0, .ref b), (1, .ref (ga g 0)), (2, .ref (ga g 118))] dL_law_1437 rfl rfl (Nat.le_of_ble_eq_true rfl) rfl ?_
    refine a_goto 18 dL_law_1440 rfl ?_
    exact a_sub [1, 2, 3, 0] rfl hv
  · replace hv := hv.2 hc
    refine a_iconst (v := 0) dL_law_276 (by decide) ?_
    exact hv.elim
def VC_law_278 (nm : String) (g : GT) (b LL : Nat) (xs : Nat → Int32) (c0 s0 : Nat) (v3 : Int32) (I : IT) (J : JT) : Prop :=
  (vp_in (v3 + 1) LL ∧ (SemI g 40 M_X7_sea [.ref (ga g 0), .int (xs (v3 + 1).toNatClampNeg)] I J (fun r284 I284 J284 => (vp_in (v3 + 1) LL ∧ (SemI g 40 M_X8_sea [.ref (ga g 118), .int (xs (v3 + 1).toNatClampNeg)] I284 J284 (fun r293 I293 J293 => ((r284 = r293 → (Lp_law_18 nm g b LL xs c0 s0 (v3 + 8) I293 J293)) ∧ (¬ r284 = r293 → False))))))))
set_option maxRecDepth 4000 in
theorem w_law_278 {nm : String} {g : GT} {b LL : Nat} {xs : Nat → Int32} {c0 s0 : Nat} {v3 : Int32} {I : IT} {J : JT} (hc0 : c0 ≤ 600000) (hs0 : s0 ≤ 7302250) (hv : VC_law_278 nm g b LL xs c0 s0 v3 I J) : Lp_law_278 nm g b LL xs c0 s0 v3 I J := by
  unfold VC_law_278 at hv
  unfold Lp_law_278
  refine a_aload_n 1 dL_law_278 rfl rfl ?_
  refine a_aload_n 0 dL_law_279 rfl rfl ?_
  refine a_iload_n 3 dL_law_280 rfl rfl ?_
  refine a_iconst (v := 1) dL_law_281 (by decide) ?_
  refine a_iadd dL_law_282 ?_
  refine a_sld hv.1 dL_law_283 ?_
  replace hv := hv.2
  refine c_VI (As := [.int (xs (v3 + 1).toNatClampNeg)]) (rest := []) hv K_L_32 sh_0 rfl rfl rfl (Nat.le_of_ble_eq_true rfl) ⟨Nat.le_of_ble_eq_true rfl, Nat.le_of_ble_eq_true rfl⟩ ⟨hc0, hs0⟩ dL_law_284 (fun r284 I284 J284 hv => ?_)
  refine a_aload_n 2 dL_law_287 rfl rfl ?_
  refine a_aload_n 0 dL_law_288 rfl rfl ?_
  refine a_iload_n 3 dL_law_289 rfl rfl ?_
  refine a_iconst (v := 1) dL_law_290 (by decide) ?_
  refine a_iadd dL_law_291 ?_
  refine a_sld hv.1 dL_law_292 ?_
  replace hv := hv.2
  refine c_VI (As := [.int (xs (v3 + 1).toNatClampNeg)]) (rest := [.int r284]) hv K_L_35 sh_118 rfl rfl rfl (Nat.le_of_ble_eq_true rfl) ⟨Nat.le_of_ble_eq_true rfl, Nat.le_of_ble_eq_true rfl⟩ ⟨hc0, hs0⟩ dL_law_293 (fun r293 I293 J293 hv => ?_)
  refine a_icmp_eq 1437 dL_law_296 rfl (fun hc => ?_) (fun hc => ?_)
  · replace hv := hv.1 hc
    refine a_iinc 3 (v3 + 8) [(3, .int (v3 + 8)), (0, .ref b), (1, .ref (ga g 0)), (2, .ref (ga g 118))] dL_law_1437 rfl rfl (Nat.le_of_ble_eq_true rfl) rfl ?_
    refine a_goto 18 dL_law_1440 rfl ?_
    exact a_sub [1, 2, 3, 0] rfl hv
  · replace hv := hv.2 hc
    refine a_iconst (v := 0) dL_law_299 (by decide) ?_
    exact hv.elim
def VC_law_301 (nm : String) (g : GT) (b LL : Nat) (xs : Nat → Int32) (c0 s0 : Nat) (v3 : Int32) (I : IT) (J : JT) : Prop :=
  (vp_in (v3 + 1) LL ∧ (SemI g 40 M_X7_credit [.ref (ga g 0), .int (xs (v3 + 1).toNatClampNeg)] I J (fun r307 I307 J307 => (vp_in (v3 + 1) LL ∧ (SemI g 40 M_X8_credit [.ref (ga g 118), .int (xs (v3 + 1).toNatClampNeg)] I307 J307 (fun r316 I316 J316 => ((r307 = r316 → (Lp_law_18 nm g b LL xs c0 s0 (v3 + 8) I316 J316)) ∧ (¬ r307 = r316 → False))))))))
set_option maxRecDepth 4000 in
theorem w_law_301 {nm : String} {g : GT} {b LL : Nat} {xs : Nat → Int32} {c0 s0 : Nat} {v3 : Int32} {I : IT} {J : JT} (hc0 : c0 ≤ 600000) (hs0 : s0 ≤ 7302250) (hv : VC_law_301 nm g b LL xs c0 s0 v3 I J) : Lp_law_301 nm g b LL xs c0 s0 v3 I J := by
  unfold VC_law_301 at hv
  unfold Lp_law_301
  refine a_aload_n 1 dL_law_301 rfl rfl ?_
  refine a_aload_n 0 dL_law_302 rfl rfl ?_
  refine a_iload_n 3 dL_law_303 rfl rfl ?_
  refine a_iconst (v := 1) dL_law_304 (by decide) ?_
  refine a_iadd dL_law_305 ?_
  refine a_sld hv.1 dL_law_306 ?_
  replace hv := hv.2
  refine c_VI (As := [.int (xs (v3 + 1).toNatClampNeg)]) (rest := []) hv K_L_36 sh_0 rfl rfl rfl (Nat.le_of_ble_eq_true rfl) ⟨Nat.le_of_ble_eq_true rfl, Nat.le_of_ble_eq_true rfl⟩ ⟨hc0, hs0⟩ dL_law_307 (fun r307 I307 J307 hv => ?_)
  refine a_aload_n 2 dL_law_310 rfl rfl ?_
  refine a_aload_n 0 dL_law_311 rfl rfl ?_
  refine a_iload_n 3 dL_law_312 rfl rfl ?_
  refine a_iconst (v := 1) dL_law_313 (by decide) ?_
  refine a_iadd dL_law_314 ?_
  refine a_sld hv.1 dL_law_315 ?_
  replace hv := hv.2
  refine c_VI (As := [.int (xs (v3 + 1).toNatClampNeg)]) (rest := [.int r307]) hv K_L_39 sh_118 rfl rfl rfl (Nat.le_of_ble_eq_true rfl) ⟨Nat.le_of_ble_eq_true rfl, Nat.le_of_ble_eq_true rfl⟩ ⟨hc0, hs0⟩ dL_law_316 (fun r316 I316 J316 hv => ?_)
  refine a_icmp_eq 1437 dL_law_319 rfl (fun hc => ?_) (fun hc => ?_)
  · replace hv := hv.1 hc
    refine a_iinc 3 (v3 + 8) [(3, .int (v3 + 8)), (0, .ref b), (1, .ref (ga g 0)), (2, .ref (ga g 118))] dL_law_1437 rfl rfl (Nat.le_of_ble_eq_true rfl) rfl ?_
    refine a_goto 18 dL_law_1440 rfl ?_
    exact a_sub [1, 2, 3, 0] rfl hv
  · replace hv := hv.2 hc
    refine a_iconst (v := 0) dL_law_322 (by decide) ?_
    exact hv.elim
def VC_law_324 (nm : String) (g : GT) (b LL : Nat) (xs : Nat → Int32) (c0 s0 : Nat) (v3 : Int32) (I : IT) (J : JT) : Prop :=
  (vp_in (v3 + 1) LL ∧ (vp_in (v3 + 2) LL ∧ (SemI g 40 M_X7_doubt [.ref (ga g 0), .int (xs (v3 + 1).toNatClampNeg), .int (xs (v3 + 2).toNatClampNeg)] I J (fun r335 I335 J335 => (vp_in (v3 + 1) LL ∧ (vp_in (v3 + 2) LL ∧ (SemI g 40 M_X8_doubt [.ref (ga g 118), .int (xs (v3 + 1).toNatClampNeg), .int (xs (v3 + 2).toNatClampNeg)] I335 J335 (fun r349 I349 J349 => ((r335 = r349 → (Lp_law_18 nm g b LL xs c0 s0 (v3 + 8) I349 J349)) ∧ (¬ r335 = r349 → False))))))))))
set_option maxRecDepth 4000 in
theorem w_law_324 {nm : String} {g : GT} {b LL : Nat} {xs : Nat → Int32} {c0 s0 : Nat} {v3 : Int32} {I : IT} {J : JT} (hc0 : c0 ≤ 600000) (hs0 : s0 ≤ 7302250) (hv : VC_law_324 nm g b LL xs c0 s0 v3 I J) : Lp_law_324 nm g b LL xs c0 s0 v3 I J := by
  unfold VC_law_324 at hv
  unfold Lp_law_324
  refine a_aload_n 1 dL_law_324 rfl rfl ?_
  refine a_aload_n 0 dL_law_325 rfl rfl ?_
  refine a_iload_n 3 dL_law_326 rfl rfl ?_
  refine a_iconst (v := 1) dL_law_327 (by decide) ?_
  refine a_iadd dL_law_328 ?_
  refine a_sld hv.1 dL_law_329 ?_
  replace hv := hv.2
  refine a_aload_n 0 dL_law_330 rfl rfl ?_
  refine a_iload_n 3 dL_law_331 rfl rfl ?_
  refine a_iconst (v := 2) dL_law_332 (by decide) ?_
  refine a_iadd dL_law_333 ?_
  refine a_sld hv.1 dL_law_334 ?_
  replace hv := hv.2
  refine c_VI (As := [.int (xs (v3 + 1).toNatClampNeg), .int (xs (v3 + 2).toNatClampNeg)]) (rest := []) hv K_L_40 sh_0 rfl rfl rfl (Nat.le_of_ble_eq_true rfl) ⟨Nat.le_of_ble_eq_true rfl, Nat.le_of_ble_eq_true rfl⟩ ⟨hc0, hs0⟩ dL_law_335 (fun r335 I335 J335 hv => ?_)
  refine a_aload_n 2 dL_law_338 rfl rfl ?_
  refine a_aload_n 0 dL_law_339 rfl rfl ?_
  refine a_iload_n 3 dL_law_340 rfl rfl ?_
  refine a_iconst (v := 1) dL_law_341 (by decide) ?_
  refine a_iadd dL_law_342 ?_
  refine a_sld hv.1 dL_law_343 ?_
  replace hv := hv.2
  refine a_aload_n 0 dL_law_344 rfl rfl ?_
  refine a_iload_n 3 dL_law_345 rfl rfl ?_
  refine a_iconst (v := 2) dL_law_346 (by decide) ?_
  refine a_iadd dL_law_347 ?_
  refine a_sld hv.1 dL_law_348 ?_
  replace hv := hv.2
  refine c_VI (As := [.int (xs (v3 + 1).toNatClampNeg), .int (xs (v3 + 2).toNatClampNeg)]) (rest := [.int r335]) hv K_L_43 sh_118 rfl rfl rfl (Nat.le_of_ble_eq_true rfl) ⟨Nat.le_of_ble_eq_true rfl, Nat.le_of_ble_eq_true rfl⟩ ⟨hc0, hs0⟩ dL_law_349 (fun r349 I349 J349 hv => ?_)
  refine a_icmp_eq 1437 dL_law_352 rfl (fun hc => ?_) (fun hc => ?_)
  · replace hv := hv.1 hc
    refine a_iinc 3 (v3 + 8) [(3, .int (v3 + 8)), (0, .ref b), (1, .ref (ga g 0)), (2, .ref (ga g 118))] dL_law_1437 rfl rfl (Nat.le_of_ble_eq_true rfl) rfl ?_
    refine a_goto 18 dL_law_1440 rfl ?_
    exact a_sub [1, 2, 3, 0] rfl hv
  · replace hv := hv.2 hc
    refine a_iconst (v := 0) dL_law_355 (by decide) ?_
    exact hv.elim
def VC_law_357 (nm : String) (g : GT) (b LL : Nat) (xs : Nat → Int32) (c0 s0 : Nat) (v3 : Int32) (I : IT) (J : JT) : Prop :=
  (vp_in (v3 + 1) LL ∧ (vp_in (v3 + 2) LL ∧ (vp_in (v3 + 3) LL ∧ (SemI g 40 M_X7_say [.ref (ga g 0), .int (xs (v3 + 1).toNatClampNeg), .int (xs (v3 + 2).toNatClampNeg), .int (xs (v3 + 3).toNatClampNeg)] I J (fun r373 I373 J373 => (vp_in (v3 + 1) LL ∧ (vp_in (v3 + 2) LL ∧ (vp_in (v3 + 3) LL ∧ (SemI g 40 M_X8_say [.ref (ga g 118), .int (xs (v3 + 1).toNatClampNeg), .int (xs (v3 + 2).toNatClampNeg), .int (xs (v3 + 3).toNatClampNeg)] I373 J373 (fun r392 I392 J392 => ((r373 = r392 → (Lp_law_18 nm g b LL xs c0 s0 (v3 + 8) I392 J392)) ∧ (¬ r373 = r392 → False))))))))))))
set_option maxRecDepth 4000 in
theorem w_law_357 {nm : String} {g : GT} {b LL : Nat} {xs : Nat → Int32} {c0 s0 : Nat} {v3 : Int32} {I : IT} {J : JT} (hc0 : c0 ≤ 600000) (hs0 : s0 ≤ 7302250) (hv : VC_law_357 nm g b LL xs c0 s0 v3 I J) : Lp_law_357 nm g b LL xs c0 s0 v3 I J := by
  unfold VC_law_357 at hv
  unfold Lp_law_357
  refine a_aload_n 1 dL_law_357 rfl rfl ?_
  refine a_aload_n 0 dL_law_358 rfl rfl ?_
  refine a_iload_n 3 dL_law_359 rfl rfl ?_
  refine a_iconst (v := 1) dL_law_360 (by decide) ?_
  refine a_iadd dL_law_361 ?_
  refine a_sld hv.1 dL_law_362 ?_
  replace hv := hv.2
  refine a_aload_n 0 dL_law_363 rfl rfl ?_
  refine a_iload_n 3 dL_law_364 rfl rfl ?_
  refine a_iconst (v := 2) dL_law_365 (by decide) ?_
  refine a_iadd dL_law_366 ?_
  refine a_sld hv.1 dL_law_367 ?_
  replace hv := hv.2
  refine a_aload_n 0 dL_law_368 rfl rfl ?_
  refine a_iload_n 3 dL_law_369 rfl rfl ?_
  refine a_iconst (v := 3) dL_law_370 (by decide) ?_
  refine a_iadd dL_law_371 ?_
  refine a_sld hv.1 dL_law_372 ?_
  replace hv := hv.2
  refine c_VI (As := [.int (xs (v3 + 1).toNatClampNeg), .int (xs (v3 + 2).toNatClampNeg), .int (xs (v3 + 3).toNatClampNeg)]) (rest := []) hv K_L_44 sh_0 rfl rfl rfl (Nat.le_of_ble_eq_true rfl) ⟨Nat.le_of_ble_eq_true rfl, Nat.le_of_ble_eq_true rfl⟩ ⟨hc0, hs0⟩ dL_law_373 (fun r373 I373 J373 hv => ?_)
  refine a_aload_n 2 dL_law_376 rfl rfl ?_
  refine a_aload_n 0 dL_law_377 rfl rfl ?_
  refine a_iload_n 3 dL_law_378 rfl rfl ?_
  refine a_iconst (v := 1) dL_law_379 (by decide) ?_
  refine a_iadd dL_law_380 ?_
  refine a_sld hv.1 dL_law_381 ?_
  replace hv := hv.2
  refine a_aload_n 0 dL_law_382 rfl rfl ?_
  refine a_iload_n 3 dL_law_383 rfl rfl ?_
  refine a_iconst (v := 2) dL_law_384 (by decide) ?_
  refine a_iadd dL_law_385 ?_
  refine a_sld hv.1 dL_law_386 ?_
  replace hv := hv.2
  refine a_aload_n 0 dL_law_387 rfl rfl ?_
  refine a_iload_n 3 dL_law_388 rfl rfl ?_
  refine a_iconst (v := 3) dL_law_389 (by decide) ?_
  refine a_iadd dL_law_390 ?_
  refine a_sld hv.1 dL_law_391 ?_
  replace hv := hv.2
  refine c_VI (As := [.int (xs (v3 + 1).toNatClampNeg), .int (xs (v3 + 2).toNatClampNeg), .int (xs (v3 + 3).toNatClampNeg)]) (rest := [.int r373]) hv K_L_48 sh_118 rfl rfl rfl (Nat.le_of_ble_eq_true rfl) ⟨Nat.le_of_ble_eq_true rfl, Nat.le_of_ble_eq_true rfl⟩ ⟨hc0, hs0⟩ dL_law_392 (fun r392 I392 J392 hv => ?_)
  refine a_icmp_eq 1437 dL_law_395 rfl (fun hc => ?_) (fun hc => ?_)
  · replace hv := hv.1 hc
    refine a_iinc 3 (v3 + 8) [(3, .int (v3 + 8)), (0, .ref b), (1, .ref (ga g 0)), (2, .ref (ga g 118))] dL_law_1437 rfl rfl (Nat.le_of_ble_eq_true rfl) rfl ?_
    refine a_goto 18 dL_law_1440 rfl ?_
    exact a_sub [1, 2, 3, 0] rfl hv
  · replace hv := hv.2 hc
    refine a_iconst (v := 0) dL_law_398 (by decide) ?_
    exact hv.elim
def VC_law_400 (nm : String) (g : GT) (b LL : Nat) (xs : Nat → Int32) (c0 s0 : Nat) (v3 : Int32) (I : IT) (J : JT) : Prop :=
  (vp_in (v3 + 1) LL ∧ (vp_in (v3 + 2) LL ∧ (vp_in (v3 + 3) LL ∧ (vp_in (v3 + 4) LL ∧ (vp_in (v3 + 5) LL ∧ (SemI g 40 M_X7_storm [.ref (ga g 0), .int (xs (v3 + 1).toNatClampNeg), .int (xs (v3 + 2).toNatClampNeg), .int (xs (v3 + 3).toNatClampNeg), .int (xs (v3 + 4).toNatClampNeg), .int (xs (v3 + 5).toNatClampNeg)] I J (fun r426 I426 J426 => (vp_in (v3 + 1) LL ∧ (vp_in (v3 + 2) LL ∧ (vp_in (v3 + 3) LL ∧ (vp_in (v3 + 4) LL ∧ (vp_in (v3 + 5) LL ∧ (SemI g 40 M_X8_storm [.ref (ga g 118), .int (xs (v3 + 1).toNatClampNeg), .int (xs (v3 + 2).toNatClampNeg), .int (xs (v3 + 3).toNatClampNeg), .int (xs (v3 + 4).toNatClampNeg), .int (xs (v3 + 5).toNatClampNeg)] I426 J426 (fun r455 I455 J455 => ((r426 = r455 → (Lp_law_18 nm g b LL xs c0 s0 (v3 + 8) I455 J455)) ∧ (¬ r426 = r455 → False))))))))))))))))
set_option maxRecDepth 4000 in
theorem w_law_400 {nm : String} {g : GT} {b LL : Nat} {xs : Nat → Int32} {c0 s0 : Nat} {v3 : Int32} {I : IT} {J : JT} (hc0 : c0 ≤ 600000) (hs0 : s0 ≤ 7302250) (hv : VC_law_400 nm g b LL xs c0 s0 v3 I J) : Lp_law_400 nm g b LL xs c0 s0 v3 I J := by
  unfold VC_law_400 at hv
  unfold Lp_law_400
  refine a_aload_n 1 dL_law_400 rfl rfl ?_
  refine a_aload_n 0 dL_law_401 rfl rfl ?_
  refine a_iload_n 3 dL_law_402 rfl rfl ?_
  refine a_iconst (v := 1) dL_law_403 (by decide) ?_
  refine a_iadd dL_law_404 ?_
  refine a_sld hv.1 dL_law_405 ?_
  replace hv := hv.2
  refine a_aload_n 0 dL_law_406 rfl rfl ?_
  refine a_iload_n 3 dL_law_407 rfl rfl ?_
  refine a_iconst (v := 2) dL_law_408 (by decide) ?_
  refine a_iadd dL_law_409 ?_
  refine a_sld hv.1 dL_law_410 ?_
  replace hv := hv.2
  refine a_aload_n 0 dL_law_411 rfl rfl ?_
  refine a_iload_n 3 dL_law_412 rfl rfl ?_
  refine a_iconst (v := 3) dL_law_413 (by decide) ?_
  refine a_iadd dL_law_414 ?_
  refine a_sld hv.1 dL_law_415 ?_
  replace hv := hv.2
  refine a_aload_n 0 dL_law_416 rfl rfl ?_
  refine a_iload_n 3 dL_law_417 rfl rfl ?_
  refine a_iconst (v := 4) dL_law_418 (by decide) ?_
  refine a_iadd dL_law_419 ?_
  refine a_sld hv.1 dL_law_420 ?_
  replace hv := hv.2
  refine a_aload_n 0 dL_law_421 rfl rfl ?_
  refine a_iload_n 3 dL_law_422 rfl rfl ?_
  refine a_iconst (v := 5) dL_law_423 (by decide) ?_
  refine a_iadd dL_law_424 ?_
  refine a_sld hv.1 dL_law_425 ?_
  replace hv := hv.2
  refine c_VI (As := [.int (xs (v3 + 1).toNatClampNeg), .int (xs (v3 + 2).toNatClampNeg), .int (xs (v3 + 3).toNatClampNeg), .int (xs (v3 + 4).toNatClampNeg), .int (xs (v3 + 5).toNatClampNeg)]) (rest := []) hv K_L_49 sh_0 rfl rfl rfl (Nat.le_of_ble_eq_true rfl) ⟨Nat.le_of_ble_eq_true rfl, Nat.le_of_ble_eq_true rfl⟩ ⟨hc0, hs0⟩ dL_law_426 (fun r426 I426 J426 hv => ?_)
  refine a_aload_n 2 dL_law_429 rfl rfl ?_
  refine a_aload_n 0 dL_law_430 rfl rfl ?_
  refine a_iload_n 3 dL_law_431 rfl rfl ?_
  refine a_iconst (v := 1) dL_law_432 (by decide) ?_
  refine a_iadd dL_law_433 ?_
  refine a_sld hv.1 dL_law_434 ?_
  replace hv := hv.2
  refine a_aload_n 0 dL_law_435 rfl rfl ?_
  refine a_iload_n 3 dL_law_436 rfl rfl ?_
  refine a_iconst (v := 2) dL_law_437 (by decide) ?_
  refine a_iadd dL_law_438 ?_
  refine a_sld hv.1 dL_law_439 ?_
  replace hv := hv.2
  refine a_aload_n 0 dL_law_440 rfl rfl ?_
  refine a_iload_n 3 dL_law_441 rfl rfl ?_
  refine a_iconst (v := 3) dL_law_442 (by decide) ?_
  refine a_iadd dL_law_443 ?_
  refine a_sld hv.1 dL_law_444 ?_
  replace hv := hv.2
  refine a_aload_n 0 dL_law_445 rfl rfl ?_
  refine a_iload_n 3 dL_law_446 rfl rfl ?_
  refine a_iconst (v := 4) dL_law_447 (by decide) ?_
  refine a_iadd dL_law_448 ?_
  refine a_sld hv.1 dL_law_449 ?_
  replace hv := hv.2
  refine a_aload_n 0 dL_law_450 rfl rfl ?_
  refine a_iload_n 3 dL_law_451 rfl rfl ?_
  refine a_iconst (v := 5) dL_law_452 (by decide) ?_
  refine a_iadd dL_law_453 ?_
  refine a_sld hv.1 dL_law_454 ?_
  replace hv := hv.2
  refine c_VI (As := [.int (xs (v3 + 1).toNatClampNeg), .int (xs (v3 + 2).toNatClampNeg), .int (xs (v3 + 3).toNatClampNeg), .int (xs (v3 + 4).toNatClampNeg), .int (xs (v3 + 5).toNatClampNeg)]) (rest := [.int r426]) hv K_L_53 sh_118 rfl rfl rfl (Nat.le_of_ble_eq_true rfl) ⟨Nat.le_of_ble_eq_true rfl, Nat.le_of_ble_eq_true rfl⟩ ⟨hc0, hs0⟩ dL_law_455 (fun r455 I455 J455 hv => ?_)
  refine a_icmp_eq 1437 dL_law_458 rfl (fun hc => ?_) (fun hc => ?_)
  · replace hv := hv.1 hc
    refine a_iinc 3 (v3 + 8) [(3, .int (v3 + 8)), (0, .ref b), (1, .ref (ga g 0)), (2, .ref (ga g 118))] dL_law_1437 rfl rfl (Nat.le_of_ble_eq_true rfl) rfl ?_
    refine a_goto 18 dL_law_1440 rfl ?_
    exact a_sub [1, 2, 3, 0] rfl hv
  · replace hv := hv.2 hc
    refine a_iconst (v := 0) dL_law_461 (by decide) ?_
    exact hv.elim
def VC_law_463 (nm : String) (g : GT) (b LL : Nat) (xs : Nat → Int32) (c0 s0 : Nat) (v3 : Int32) (I : IT) (J : JT) : Prop :=
  (vp_in (v3 + 1) LL ∧ (SemI g 40 M_X7_drift [.ref (ga g 0), .int (xs (v3 + 1).toNatClampNeg)] I J (fun r469 I469 J469 => (vp_in (v3 + 1) LL ∧ (SemI g 40 M_X8_drift [.ref (ga g 118), .int (xs (v3 + 1).toNatClampNeg)] I469 J469 (fun r478 I478 J478 => ((r469 = r478 → (Lp_law_18 nm g b LL xs c0 s0 (v3 + 8) I478 J478)) ∧ (¬ r469 = r478 → False))))))))
set_option maxRecDepth 4000 in
theorem w_law_463 {nm : String} {g : GT} {b LL : Nat} {xs : Nat → Int32} {c0 s0 : Nat} {v3 : Int32} {I : IT} {J : JT} (hc0 : c0 ≤ 600000) (hs0 : s0 ≤ 7302250) (hv : VC_law_463 nm g b LL xs c0 s0 v3 I J) : Lp_law_463 nm g b LL xs c0 s0 v3 I J := by
  unfold VC_law_463 at hv
  unfold Lp_law_463
  refine a_aload_n 1 dL_law_463 rfl rfl ?_
  refine a_aload_n 0 dL_law_464 rfl rfl ?_
  refine a_iload_n 3 dL_law_465 rfl rfl ?_
  refine a_iconst (v := 1) dL_law_466 (by decide) ?_
  refine a_iadd dL_law_467 ?_
  refine a_sld hv.1 dL_law_468 ?_
  replace hv := hv.2
  refine c_VI (As := [.int (xs (v3 + 1).toNatClampNeg)]) (rest := []) hv K_L_54 sh_0 rfl rfl rfl (Nat.le_of_ble_eq_true rfl) ⟨Nat.le_of_ble_eq_true rfl, Nat.le_of_ble_eq_true rfl⟩ ⟨hc0, hs0⟩ dL_law_469 (fun r469 I469 J469 hv => ?_)
  refine a_aload_n 2 dL_law_472 rfl rfl ?_
  refine a_aload_n 0 dL_law_473 rfl rfl ?_
  refine a_iload_n 3 dL_law_474 rfl rfl ?_
  refine a_iconst (v := 1) dL_law_475 (by decide) ?_
  refine a_iadd dL_law_476 ?_
  refine a_sld hv.1 dL_law_477 ?_
  replace hv := hv.2
  refine c_VI (As := [.int (xs (v3 + 1).toNatClampNeg)]) (rest := [.int r469]) hv K_L_57 sh_118 rfl rfl rfl (Nat.le_of_ble_eq_true rfl) ⟨Nat.le_of_ble_eq_true rfl, Nat.le_of_ble_eq_true rfl⟩ ⟨hc0, hs0⟩ dL_law_478 (fun r478 I478 J478 hv => ?_)
  refine a_icmp_eq 1437 dL_law_481 rfl (fun hc => ?_) (fun hc => ?_)
  · replace hv := hv.1 hc
    refine a_iinc 3 (v3 + 8) [(3, .int (v3 + 8)), (0, .ref b), (1, .ref (ga g 0)), (2, .ref (ga g 118))] dL_law_1437 rfl rfl (Nat.le_of_ble_eq_true rfl) rfl ?_
    refine a_goto 18 dL_law_1440 rfl ?_
    exact a_sub [1, 2, 3, 0] rfl hv
  · replace hv := hv.2 hc
    refine a_iconst (v := 0) dL_law_484 (by decide) ?_
    exact hv.elim
def VC_law_486 (nm : String) (g : GT) (b LL : Nat) (xs : Nat → Int32) (c0 s0 : Nat) (v3 : Int32) (I : IT) (J : JT) : Prop :=
  (vp_in (v3 + 1) LL ∧ (SemI g 40 M_X7_scrape [.ref (ga g 0), .int (xs (v3 + 1).toNatClampNeg)] I J (fun r492 I492 J492 => (vp_in (v3 + 1) LL ∧ (SemI g 40 M_X8_scrape [.ref (ga g 118), .int (xs (v3 + 1).toNatClampNeg)] I492 J492 (fun r501 I501 J501 => ((r492 = r501 → (Lp_law_18 nm g b LL xs c0 s0 (v3 + 8) I501 J501)) ∧ (¬ r492 = r501 → False))))))))
set_option maxRecDepth 4000 in
theorem w_law_486 {nm : String} {g : GT} {b LL : Nat} {xs : Nat → Int32} {c0 s0 : Nat} {v3 : Int32} {I : IT} {J : JT} (hc0 : c0 ≤ 600000) (hs0 : s0 ≤ 7302250) (hv : VC_law_486 nm g b LL xs c0 s0 v3 I J) : Lp_law_486 nm g b LL xs c0 s0 v3 I J := by
  unfold VC_law_486 at hv
  unfold Lp_law_486
  refine a_aload_n 1 dL_law_486 rfl rfl ?_
  refine a_aload_n 0 dL_law_487 rfl rfl ?_
  refine a_iload_n 3 dL_law_488 rfl rfl ?_
  refine a_iconst (v := 1) dL_law_489 (by decide) ?_
  refine a_iadd dL_law_490 ?_
  refine a_sld hv.1 dL_law_491 ?_
  replace hv := hv.2
  refine c_VI (As := [.int (xs (v3 + 1).toNatClampNeg)]) (rest := []) hv K_L_58 sh_0 rfl rfl rfl (Nat.le_of_ble_eq_true rfl) ⟨Nat.le_of_ble_eq_true rfl, Nat.le_of_ble_eq_true rfl⟩ ⟨hc0, hs0⟩ dL_law_492 (fun r492 I492 J492 hv => ?_)
  refine a_aload_n 2 dL_law_495 rfl rfl ?_
  refine a_aload_n 0 dL_law_496 rfl rfl ?_
  refine a_iload_n 3 dL_law_497 rfl rfl ?_
  refine a_iconst (v := 1) dL_law_498 (by decide) ?_
  refine a_iadd dL_law_499 ?_
  refine a_sld hv.1 dL_law_500 ?_
  replace hv := hv.2
  refine c_VI (As := [.int (xs (v3 + 1).toNatClampNeg)]) (rest := [.int r492]) hv K_L_61 sh_118 rfl rfl rfl (Nat.le_of_ble_eq_true rfl) ⟨Nat.le_of_ble_eq_true rfl, Nat.le_of_ble_eq_true rfl⟩ ⟨hc0, hs0⟩ dL_law_501 (fun r501 I501 J501 hv => ?_)
  refine a_icmp_eq 1437 dL_law_504 rfl (fun hc => ?_) (fun hc => ?_)
  · replace hv := hv.1 hc
    refine a_iinc 3 (v3 + 8) [(3, .int (v3 + 8)), (0, .ref b), (1, .ref (ga g 0)), (2, .ref (ga g 118))] dL_law_1437 rfl rfl (Nat.le_of_ble_eq_true rfl) rfl ?_
    refine a_goto 18 dL_law_1440 rfl ?_
    exact a_sub [1, 2, 3, 0] rfl hv
  · replace hv := hv.2 hc
    refine a_iconst (v := 0) dL_law_507 (by decide) ?_
    exact hv.elim
def VC_law_509 (nm : String) (g : GT) (b LL : Nat) (xs : Nat → Int32) (c0 s0 : Nat) (v3 : Int32) (I : IT) (J : JT) : Prop :=
  (vp_in (v3 + 1) LL ∧ (SemI g 40 M_X7_learn [.ref (ga g 0), .int (xs (v3 + 1).toNatClampNeg)] I J (fun r515 I515 J515 => (vp_in (v3 + 1) LL ∧ (SemI g 40 M_X8_learn [.ref (ga g 118), .int (xs (v3 + 1).toNatClampNeg)] I515 J515 (fun r524 I524 J524 => ((r515 = r524 → (Lp_law_18 nm g b LL xs c0 s0 (v3 + 8) I524 J524)) ∧ (¬ r515 = r524 → False))))))))
set_option maxRecDepth 4000 in
theorem w_law_509 {nm : String} {g : GT} {b LL : Nat} {xs : Nat → Int32} {c0 s0 : Nat} {v3 : Int32} {I : IT} {J : JT} (hc0 : c0 ≤ 600000) (hs0 : s0 ≤ 7302250) (hv : VC_law_509 nm g b LL xs c0 s0 v3 I J) : Lp_law_509 nm g b LL xs c0 s0 v3 I J := by
  unfold VC_law_509 at hv
  unfold Lp_law_509
  refine a_aload_n 1 dL_law_509 rfl rfl ?_
  refine a_aload_n 0 dL_law_510 rfl rfl ?_
  refine a_iload_n 3 dL_law_511 rfl rfl ?_
  refine a_iconst (v := 1) dL_law_512 (by decide) ?_
  refine a_iadd dL_law_513 ?_
  refine a_sld hv.1 dL_law_514 ?_
  replace hv := hv.2
  refine c_VI (As := [.int (xs (v3 + 1).toNatClampNeg)]) (rest := []) hv K_L_62 sh_0 rfl rfl rfl (Nat.le_of_ble_eq_true rfl) ⟨Nat.le_of_ble_eq_true rfl, Nat.le_of_ble_eq_true rfl⟩ ⟨hc0, hs0⟩ dL_law_515 (fun r515 I515 J515 hv => ?_)
  refine a_aload_n 2 dL_law_518 rfl rfl ?_
  refine a_aload_n 0 dL_law_519 rfl rfl ?_
  refine a_iload_n 3 dL_law_520 rfl rfl ?_
  refine a_iconst (v := 1) dL_law_521 (by decide) ?_
  refine a_iadd dL_law_522 ?_
  refine a_sld hv.1 dL_law_523 ?_
  replace hv := hv.2
  refine c_VI (As := [.int (xs (v3 + 1).toNatClampNeg)]) (rest := [.int r515]) hv K_L_65 sh_118 rfl rfl rfl (Nat.le_of_ble_eq_true rfl) ⟨Nat.le_of_ble_eq_true rfl, Nat.le_of_ble_eq_true rfl⟩ ⟨hc0, hs0⟩ dL_law_524 (fun r524 I524 J524 hv => ?_)
  refine a_icmp_eq 1437 dL_law_527 rfl (fun hc => ?_) (fun hc => ?_)
  · replace hv := hv.1 hc
    refine a_iinc 3 (v3 + 8) [(3, .int (v3 + 8)), (0, .ref b), (1, .ref (ga g 0)), (2, .ref (ga g 118))] dL_law_1437 rfl rfl (Nat.le_of_ble_eq_true rfl) rfl ?_
    refine a_goto 18 dL_law_1440 rfl ?_
    exact a_sub [1, 2, 3, 0] rfl hv
  · replace hv := hv.2 hc
    refine a_iconst (v := 0) dL_law_530 (by decide) ?_
    exact hv.elim
def VC_law_532 (nm : String) (g : GT) (b LL : Nat) (xs : Nat → Int32) (c0 s0 : Nat) (v3 : Int32) (I : IT) (J : JT) : Prop :=
  (SemI g 40 M_X7_undo [.ref (ga g 0)] I J (fun r533 I533 J533 => (SemI g 40 M_X8_undo [.ref (ga g 118)] I533 J533 (fun r537 I537 J537 => ((r533 = r537 → (Lp_law_18 nm g b LL xs c0 s0 (v3 + 8) I537 J537)) ∧ (¬ r533 = r537 → False))))))
set_option maxRecDepth 4000 in
theorem w_law_532 {nm : String} {g : GT} {b LL : Nat} {xs : Nat → Int32} {c0 s0 : Nat} {v3 : Int32} {I : IT} {J : JT} (hc0 : c0 ≤ 600000) (hs0 : s0 ≤ 7302250) (hv : VC_law_532 nm g b LL xs c0 s0 v3 I J) : Lp_law_532 nm g b LL xs c0 s0 v3 I J := by
  unfold VC_law_532 at hv
  unfold Lp_law_532
  refine a_aload_n 1 dL_law_532 rfl rfl ?_
  refine c_VI (As := []) (rest := []) hv K_L_66 sh_0 rfl rfl rfl (Nat.le_of_ble_eq_true rfl) ⟨Nat.le_of_ble_eq_true rfl, Nat.le_of_ble_eq_true rfl⟩ ⟨hc0, hs0⟩ dL_law_533 (fun r533 I533 J533 hv => ?_)
  refine a_aload_n 2 dL_law_536 rfl rfl ?_
  refine c_VI (As := []) (rest := [.int r533]) hv K_L_69 sh_118 rfl rfl rfl (Nat.le_of_ble_eq_true rfl) ⟨Nat.le_of_ble_eq_true rfl, Nat.le_of_ble_eq_true rfl⟩ ⟨hc0, hs0⟩ dL_law_537 (fun r537 I537 J537 hv => ?_)
  refine a_icmp_eq 1437 dL_law_540 rfl (fun hc => ?_) (fun hc => ?_)
  · replace hv := hv.1 hc
    refine a_iinc 3 (v3 + 8) [(3, .int (v3 + 8)), (0, .ref b), (1, .ref (ga g 0)), (2, .ref (ga g 118))] dL_law_1437 rfl rfl (Nat.le_of_ble_eq_true rfl) rfl ?_
    refine a_goto 18 dL_law_1440 rfl ?_
    exact a_sub [1, 2, 3, 0] rfl hv
  · replace hv := hv.2 hc
    refine a_iconst (v := 0) dL_law_543 (by decide) ?_
    exact hv.elim
def VC_law_545 (nm : String) (g : GT) (b LL : Nat) (xs : Nat → Int32) (c0 s0 : Nat) (v3 : Int32) (I : IT) (J : JT) : Prop :=
  (vp_in (v3 + 1) LL ∧ (SemI g 40 M_X7_image [.ref (ga g 0), .int (xs (v3 + 1).toNatClampNeg)] I J (fun r551 I551 J551 => (vp_in (v3 + 1) LL ∧ (SemI g 40 M_X8_image [.ref (ga g 118), .int (xs (v3 + 1).toNatClampNeg)] I551 J551 (fun r560 I560 J560 => ((r551 = r560 → (Lp_law_18 nm g b LL xs c0 s0 (v3 + 8) I560 J560)) ∧ (¬ r551 = r560 → False))))))))
set_option maxRecDepth 4000 in
theorem w_law_545 {nm : String} {g : GT} {b LL : Nat} {xs : Nat → Int32} {c0 s0 : Nat} {v3 : Int32} {I : IT} {J : JT} (hc0 : c0 ≤ 600000) (hs0 : s0 ≤ 7302250) (hv : VC_law_545 nm g b LL xs c0 s0 v3 I J) : Lp_law_545 nm g b LL xs c0 s0 v3 I J := by
  unfold VC_law_545 at hv
  unfold Lp_law_545
  refine a_aload_n 1 dL_law_545 rfl rfl ?_
  refine a_aload_n 0 dL_law_546 rfl rfl ?_
  refine a_iload_n 3 dL_law_547 rfl rfl ?_
  refine a_iconst (v := 1) dL_law_548 (by decide) ?_
  refine a_iadd dL_law_549 ?_
  refine a_sld hv.1 dL_law_550 ?_
  replace hv := hv.2
  refine c_VI (As := [.int (xs (v3 + 1).toNatClampNeg)]) (rest := []) hv K_L_70 sh_0 rfl rfl rfl (Nat.le_of_ble_eq_true rfl) ⟨Nat.le_of_ble_eq_true rfl, Nat.le_of_ble_eq_true rfl⟩ ⟨hc0, hs0⟩ dL_law_551 (fun r551 I551 J551 hv => ?_)
  refine a_aload_n 2 dL_law_554 rfl rfl ?_
  refine a_aload_n 0 dL_law_555 rfl rfl ?_
  refine a_iload_n 3 dL_law_556 rfl rfl ?_
  refine a_iconst (v := 1) dL_law_557 (by decide) ?_
  refine a_iadd dL_law_558 ?_
  refine a_sld hv.1 dL_law_559 ?_
  replace hv := hv.2
  refine c_VI (As := [.int (xs (v3 + 1).toNatClampNeg)]) (rest := [.int r551]) hv K_L_73 sh_118 rfl rfl rfl (Nat.le_of_ble_eq_true rfl) ⟨Nat.le_of_ble_eq_true rfl, Nat.le_of_ble_eq_true rfl⟩ ⟨hc0, hs0⟩ dL_law_560 (fun r560 I560 J560 hv => ?_)
  refine a_icmp_eq 1437 dL_law_563 rfl (fun hc => ?_) (fun hc => ?_)
  · replace hv := hv.1 hc
    refine a_iinc 3 (v3 + 8) [(3, .int (v3 + 8)), (0, .ref b), (1, .ref (ga g 0)), (2, .ref (ga g 118))] dL_law_1437 rfl rfl (Nat.le_of_ble_eq_true rfl) rfl ?_
    refine a_goto 18 dL_law_1440 rfl ?_
    exact a_sub [1, 2, 3, 0] rfl hv
  · replace hv := hv.2 hc
    refine a_iconst (v := 0) dL_law_566 (by decide) ?_
    exact hv.elim
def VC_law_568 (nm : String) (g : GT) (b LL : Nat) (xs : Nat → Int32) (c0 s0 : Nat) (v3 : Int32) (I : IT) (J : JT) : Prop :=
  (vp_in (v3 + 1) LL ∧ (SemI g 40 M_X7_restore [.ref (ga g 0), .int (xs (v3 + 1).toNatClampNeg)] I J (fun r574 I574 J574 => (vp_in (v3 + 1) LL ∧ (SemI g 40 M_X8_restore [.ref (ga g 118), .int (xs (v3 + 1).toNatClampNeg)] I574 J574 (fun r583 I583 J583 => ((r574 = r583 → (Lp_law_18 nm g b LL xs c0 s0 (v3 + 8) I583 J583)) ∧ (¬ r574 = r583 → False))))))))
set_option maxRecDepth 4000 in
theorem w_law_568 {nm : String} {g : GT} {b LL : Nat} {xs : Nat → Int32} {c0 s0 : Nat} {v3 : Int32} {I : IT} {J : JT} (hc0 : c0 ≤ 600000) (hs0 : s0 ≤ 7302250) (hv : VC_law_568 nm g b LL xs c0 s0 v3 I J) : Lp_law_568 nm g b LL xs c0 s0 v3 I J := by
  unfold VC_law_568 at hv
  unfold Lp_law_568
  refine a_aload_n 1 dL_law_568 rfl rfl ?_
  refine a_aload_n 0 dL_law_569 rfl rfl ?_
  refine a_iload_n 3 dL_law_570 rfl rfl ?_
  refine a_iconst (v := 1) dL_law_571 (by decide) ?_
  refine a_iadd dL_law_572 ?_
  refine a_sld hv.1 dL_law_573 ?_
  replace hv := hv.2
  refine c_VI (As := [.int (xs (v3 + 1).toNatClampNeg)]) (rest := []) hv K_L_74 sh_0 rfl rfl rfl (Nat.le_of_ble_eq_true rfl) ⟨Nat.le_of_ble_eq_true rfl, Nat.le_of_ble_eq_true rfl⟩ ⟨hc0, hs0⟩ dL_law_574 (fun r574 I574 J574 hv => ?_)
  refine a_aload_n 2 dL_law_577 rfl rfl ?_
  refine a_aload_n 0 dL_law_578 rfl rfl ?_
  refine a_iload_n 3 dL_law_579 rfl rfl ?_
  refine a_iconst (v := 1) dL_law_580 (by decide) ?_
  refine a_iadd dL_law_581 ?_
  refine a_sld hv.1 dL_law_582 ?_
  replace hv := hv.2
  refine c_VI (As := [.int (xs (v3 + 1).toNatClampNeg)]) (rest := [.int r574]) hv K_L_77 sh_118 rfl rfl rfl (Nat.le_of_ble_eq_true rfl) ⟨Nat.le_of_ble_eq_true rfl, Nat.le_of_ble_eq_true rfl⟩ ⟨hc0, hs0⟩ dL_law_583 (fun r583 I583 J583 hv => ?_)
  refine a_icmp_eq 1437 dL_law_586 rfl (fun hc => ?_) (fun hc => ?_)
  · replace hv := hv.1 hc
    refine a_iinc 3 (v3 + 8) [(3, .int (v3 + 8)), (0, .ref b), (1, .ref (ga g 0)), (2, .ref (ga g 118))] dL_law_1437 rfl rfl (Nat.le_of_ble_eq_true rfl) rfl ?_
    refine a_goto 18 dL_law_1440 rfl ?_
    exact a_sub [1, 2, 3, 0] rfl hv
  · replace hv := hv.2 hc
    refine a_iconst (v := 0) dL_law_589 (by decide) ?_
    exact hv.elim
def VC_law_591 (nm : String) (g : GT) (b LL : Nat) (xs : Nat → Int32) (c0 s0 : Nat) (v3 : Int32) (I : IT) (J : JT) : Prop :=
  (vp_in (v3 + 1) LL ∧ (SemI g 40 M_X7_believed [.ref (ga g 0), .int (xs (v3 + 1).toNatClampNeg)] I J (fun r597 I597 J597 => (vp_in (v3 + 1) LL ∧ (SemI g 40 M_X8_believed [.ref (ga g 118), .int (xs (v3 + 1).toNatClampNeg)] I597 J597 (fun r606 I606 J606 => ((r597 = r606 → (Lp_law_18 nm g b LL xs c0 s0 (v3 + 8) I606 J606)) ∧ (¬ r597 = r606 → False))))))))
set_option maxRecDepth 4000 in
theorem w_law_591 {nm : String} {g : GT} {b LL : Nat} {xs : Nat → Int32} {c0 s0 : Nat} {v3 : Int32} {I : IT} {J : JT} (hc0 : c0 ≤ 600000) (hs0 : s0 ≤ 7302250) (hv : VC_law_591 nm g b LL xs c0 s0 v3 I J) : Lp_law_591 nm g b LL xs c0 s0 v3 I J := by
  unfold VC_law_591 at hv
  unfold Lp_law_591
  refine a_aload_n 1 dL_law_591 rfl rfl ?_
  refine a_aload_n 0 dL_law_592 rfl rfl ?_
  refine a_iload_n 3 dL_law_593 rfl rfl ?_
  refine a_iconst (v := 1) dL_law_594 (by decide) ?_
  refine a_iadd dL_law_595 ?_
  refine a_sld hv.1 dL_law_596 ?_
  replace hv := hv.2
  refine c_VI (As := [.int (xs (v3 + 1).toNatClampNeg)]) (rest := []) hv K_L_78 sh_0 rfl rfl rfl (Nat.le_of_ble_eq_true rfl) ⟨Nat.le_of_ble_eq_true rfl, Nat.le_of_ble_eq_true rfl⟩ ⟨hc0, hs0⟩ dL_law_597 (fun r597 I597 J597 hv => ?_)
  refine a_aload_n 2 dL_law_600 rfl rfl ?_
  refine a_aload_n 0 dL_law_601 rfl rfl ?_
  refine a_iload_n 3 dL_law_602 rfl rfl ?_
  refine a_iconst (v := 1) dL_law_603 (by decide) ?_
  refine a_iadd dL_law_604 ?_
  refine a_sld hv.1 dL_law_605 ?_
  replace hv := hv.2
  refine c_VI (As := [.int (xs (v3 + 1).toNatClampNeg)]) (rest := [.int r597]) hv K_L_81 sh_118 rfl rfl rfl (Nat.le_of_ble_eq_true rfl) ⟨Nat.le_of_ble_eq_true rfl, Nat.le_of_ble_eq_true rfl⟩ ⟨hc0, hs0⟩ dL_law_606 (fun r606 I606 J606 hv => ?_)
  refine a_icmp_eq 1437 dL_law_609 rfl (fun hc => ?_) (fun hc => ?_)
  · replace hv := hv.1 hc
    refine a_iinc 3 (v3 + 8) [(3, .int (v3 + 8)), (0, .ref b), (1, .ref (ga g 0)), (2, .ref (ga g 118))] dL_law_1437 rfl rfl (Nat.le_of_ble_eq_true rfl) rfl ?_
    refine a_goto 18 dL_law_1440 rfl ?_
    exact a_sub [1, 2, 3, 0] rfl hv
  · replace hv := hv.2 hc
    refine a_iconst (v := 0) dL_law_612 (by decide) ?_
    exact hv.elim
def VC_law_614 (nm : String) (g : GT) (b LL : Nat) (xs : Nat → Int32) (c0 s0 : Nat) (v3 : Int32) (I : IT) (J : JT) : Prop :=
  (vp_in (v3 + 1) LL ∧ (SemI g 40 M_X7_strikes [.ref (ga g 0), .int (xs (v3 + 1).toNatClampNeg)] I J (fun r620 I620 J620 => (vp_in (v3 + 1) LL ∧ (SemI g 40 M_X8_strikes [.ref (ga g 118), .int (xs (v3 + 1).toNatClampNeg)] I620 J620 (fun r629 I629 J629 => ((r620 = r629 → (Lp_law_18 nm g b LL xs c0 s0 (v3 + 8) I629 J629)) ∧ (¬ r620 = r629 → False))))))))
set_option maxRecDepth 4000 in
theorem w_law_614 {nm : String} {g : GT} {b LL : Nat} {xs : Nat → Int32} {c0 s0 : Nat} {v3 : Int32} {I : IT} {J : JT} (hc0 : c0 ≤ 600000) (hs0 : s0 ≤ 7302250) (hv : VC_law_614 nm g b LL xs c0 s0 v3 I J) : Lp_law_614 nm g b LL xs c0 s0 v3 I J := by
  unfold VC_law_614 at hv
  unfold Lp_law_614
  refine a_aload_n 1 dL_law_614 rfl rfl ?_
  refine a_aload_n 0 dL_law_615 rfl rfl ?_
  refine a_iload_n 3 dL_law_616 rfl rfl ?_
  refine a_iconst (v := 1) dL_law_617 (by decide) ?_
  refine a_iadd dL_law_618 ?_
  refine a_sld hv.1 dL_law_619 ?_
  replace hv := hv.2
  refine c_VI (As := [.int (xs (v3 + 1).toNatClampNeg)]) (rest := []) hv K_L_82 sh_0 rfl rfl rfl (Nat.le_of_ble_eq_true rfl) ⟨Nat.le_of_ble_eq_true rfl, Nat.le_of_ble_eq_true rfl⟩ ⟨hc0, hs0⟩ dL_law_620 (fun r620 I620 J620 hv => ?_)
  refine a_aload_n 2 dL_law_623 rfl rfl ?_
  refine a_aload_n 0 dL_law_624 rfl rfl ?_
  refine a_iload_n 3 dL_law_625 rfl rfl ?_
  refine a_iconst (v := 1) dL_law_626 (by decide) ?_
  refine a_iadd dL_law_627 ?_
  refine a_sld hv.1 dL_law_628 ?_
  replace hv := hv.2
  refine c_VI (As := [.int (xs (v3 + 1).toNatClampNeg)]) (rest := [.int r620]) hv K_L_85 sh_118 rfl rfl rfl (Nat.le_of_ble_eq_true rfl) ⟨Nat.le_of_ble_eq_true rfl, Nat.le_of_ble_eq_true rfl⟩ ⟨hc0, hs0⟩ dL_law_629 (fun r629 I629 J629 hv => ?_)
  refine a_icmp_eq 1437 dL_law_632 rfl (fun hc => ?_) (fun hc => ?_)
  · replace hv := hv.1 hc
    refine a_iinc 3 (v3 + 8) [(3, .int (v3 + 8)), (0, .ref b), (1, .ref (ga g 0)), (2, .ref (ga g 118))] dL_law_1437 rfl rfl (Nat.le_of_ble_eq_true rfl) rfl ?_
    refine a_goto 18 dL_law_1440 rfl ?_
    exact a_sub [1, 2, 3, 0] rfl hv
  · replace hv := hv.2 hc
    refine a_iconst (v := 0) dL_law_635 (by decide) ?_
    exact hv.elim
def VC_law_637 (nm : String) (g : GT) (b LL : Nat) (xs : Nat → Int32) (c0 s0 : Nat) (v3 : Int32) (I : IT) (J : JT) : Prop :=
  (vp_in (v3 + 1) LL ∧ (vp_in (v3 + 2) LL ∧ (vp_in (v3 + 3) LL ∧ (vp_in (v3 + 4) LL ∧ (SemI g 40 M_X7_course [.ref (ga g 0), .int (xs (v3 + 1).toNatClampNeg), .int (xs (v3 + 2).toNatClampNeg), .int (xs (v3 + 3).toNatClampNeg), .int (xs (v3 + 4).toNatClampNeg)] I J (fun r658 I658 J658 => (vp_in (v3 + 1) LL ∧ (vp_in (v3 + 2) LL ∧ (vp_in (v3 + 3) LL ∧ (vp_in (v3 + 4) LL ∧ (SemI g 40 M_X8_course [.ref (ga g 118), .int (xs (v3 + 1).toNatClampNeg), .int (xs (v3 + 2).toNatClampNeg), .int (xs (v3 + 3).toNatClampNeg), .int (xs (v3 + 4).toNatClampNeg)] I658 J658 (fun r682 I682 J682 => ((r658 = r682 → (Lp_law_18 nm g b LL xs c0 s0 (v3 + 8) I682 J682)) ∧ (¬ r658 = r682 → False))))))))))))))
set_option maxRecDepth 4000 in
theorem w_law_637 {nm : String} {g : GT} {b LL : Nat} {xs : Nat → Int32} {c0 s0 : Nat} {v3 : Int32} {I : IT} {J : JT} (hc0 : c0 ≤ 600000) (hs0 : s0 ≤ 7302250) (hv : VC_law_637 nm g b LL xs c0 s0 v3 I J) : Lp_law_637 nm g b LL xs c0 s0 v3 I J := by
  unfold VC_law_637 at hv
  unfold Lp_law_637
  refine a_aload_n 1 dL_law_637 rfl rfl ?_
  refine a_aload_n 0 dL_law_638 rfl rfl ?_
  refine a_iload_n 3 dL_law_639 rfl rfl ?_
  refine a_iconst (v := 1) dL_law_640 (by decide) ?_
  refine a_iadd dL_law_641 ?_
  refine a_sld hv.1 dL_law_642 ?_
  replace hv := hv.2
  refine a_aload_n 0 dL_law_643 rfl rfl ?_
  refine a_iload_n 3 dL_law_644 rfl rfl ?_
  refine a_iconst (v := 2) dL_law_645 (by decide) ?_
  refine a_iadd dL_law_646 ?_
  refine a_sld hv.1 dL_law_647 ?_
  replace hv := hv.2
  refine a_aload_n 0 dL_law_648 rfl rfl ?_
  refine a_iload_n 3 dL_law_649 rfl rfl ?_
  refine a_iconst (v := 3) dL_law_650 (by decide) ?_
  refine a_iadd dL_law_651 ?_
  refine a_sld hv.1 dL_law_652 ?_
  replace hv := hv.2
  refine a_aload_n 0 dL_law_653 rfl rfl ?_
  refine a_iload_n 3 dL_law_654 rfl rfl ?_
  refine a_iconst (v := 4) dL_law_655 (by decide) ?_
  refine a_iadd dL_law_656 ?_
  refine a_sld hv.1 dL_law_657 ?_
  replace hv := hv.2
  refine c_VI (As := [.int (xs (v3 + 1).toNatClampNeg), .int (xs (v3 + 2).toNatClampNeg), .int (xs (v3 + 3).toNatClampNeg), .int (xs (v3 + 4).toNatClampNeg)]) (rest := []) hv K_L_86 sh_0 rfl rfl rfl (Nat.le_of_ble_eq_true rfl) ⟨Nat.le_of_ble_eq_true rfl, Nat.le_of_ble_eq_true rfl⟩ ⟨hc0, hs0⟩ dL_law_658 (fun r658 I658 J658 hv => ?_)
  refine a_aload_n 2 dL_law_661 rfl rfl ?_
  refine a_aload_n 0 dL_law_662 rfl rfl ?_
  refine a_iload_n 3 dL_law_663 rfl rfl ?_
  refine a_iconst (v := 1) dL_law_664 (by decide) ?_
  refine a_iadd dL_law_665 ?_
  refine a_sld hv.1 dL_law_666 ?_
  replace hv := hv.2
  refine a_aload_n 0 dL_law_667 rfl rfl ?_
  refine a_iload_n 3 dL_law_668 rfl rfl ?_
  refine a_iconst (v := 2) dL_law_669 (by decide) ?_
  refine a_iadd dL_law_670 ?_
  refine a_sld hv.1 dL_law_671 ?_
  replace hv := hv.2
  refine a_aload_n 0 dL_law_672 rfl rfl ?_
  refine a_iload_n 3 dL_law_673 rfl rfl ?_
  refine a_iconst (v := 3) dL_law_674 (by decide) ?_
  refine a_iadd dL_law_675 ?_
  refine a_sld hv.1 dL_law_676 ?_
  replace hv := hv.2
  refine a_aload_n 0 dL_law_677 rfl rfl ?_
  refine a_iload_n 3 dL_law_678 rfl rfl ?_
  refine a_iconst (v := 4) dL_law_679 (by decide) ?_
  refine a_iadd dL_law_680 ?_
  refine a_sld hv.1 dL_law_681 ?_
  replace hv := hv.2
  refine c_VI (As := [.int (xs (v3 + 1).toNatClampNeg), .int (xs (v3 + 2).toNatClampNeg), .int (xs (v3 + 3).toNatClampNeg), .int (xs (v3 + 4).toNatClampNeg)]) (rest := [.int r658]) hv K_L_90 sh_118 rfl rfl rfl (Nat.le_of_ble_eq_true rfl) ⟨Nat.le_of_ble_eq_true rfl, Nat.le_of_ble_eq_true rfl⟩ ⟨hc0, hs0⟩ dL_law_682 (fun r682 I682 J682 hv => ?_)
  refine a_icmp_eq 1437 dL_law_685 rfl (fun hc => ?_) (fun hc => ?_)
  · replace hv := hv.1 hc
    refine a_iinc 3 (v3 + 8) [(3, .int (v3 + 8)), (0, .ref b), (1, .ref (ga g 0)), (2, .ref (ga g 118))] dL_law_1437 rfl rfl (Nat.le_of_ble_eq_true rfl) rfl ?_
    refine a_goto 18 dL_law_1440 rfl ?_
    exact a_sub [1, 2, 3, 0] rfl hv
  · replace hv := hv.2 hc
    refine a_iconst (v := 0) dL_law_688 (by decide) ?_
    exact hv.elim
def VC_law_690 (nm : String) (g : GT) (b LL : Nat) (xs : Nat → Int32) (c0 s0 : Nat) (v3 : Int32) (I : IT) (J : JT) : Prop :=
  (vp_in (v3 + 1) LL ∧ (SemI g 40 M_X7_crew [.ref (ga g 0), .int (xs (v3 + 1).toNatClampNeg)] I J (fun r696 I696 J696 => (vp_in (v3 + 1) LL ∧ (SemI g 40 M_X8_crew [.ref (ga g 118), .int (xs (v3 + 1).toNatClampNeg)] I696 J696 (fun r705 I705 J705 => ((r696 = r705 → (Lp_law_18 nm g b LL xs c0 s0 (v3 + 8) I705 J705)) ∧ (¬ r696 = r705 → False))))))))
set_option maxRecDepth 4000 in
theorem w_law_690 {nm : String} {g : GT} {b LL : Nat} {xs : Nat → Int32} {c0 s0 : Nat} {v3 : Int32} {I : IT} {J : JT} (hc0 : c0 ≤ 600000) (hs0 : s0 ≤ 7302250) (hv : VC_law_690 nm g b LL xs c0 s0 v3 I J) : Lp_law_690 nm g b LL xs c0 s0 v3 I J := by
  unfold VC_law_690 at hv
  unfold Lp_law_690
  refine a_aload_n 1 dL_law_690 rfl rfl ?_
  refine a_aload_n 0 dL_law_691 rfl rfl ?_
  refine a_iload_n 3 dL_law_692 rfl rfl ?_
  refine a_iconst (v := 1) dL_law_693 (by decide) ?_
  refine a_iadd dL_law_694 ?_
  refine a_sld hv.1 dL_law_695 ?_
  replace hv := hv.2
  refine c_VI (As := [.int (xs (v3 + 1).toNatClampNeg)]) (rest := []) hv K_L_91 sh_0 rfl rfl rfl (Nat.le_of_ble_eq_true rfl) ⟨Nat.le_of_ble_eq_true rfl, Nat.le_of_ble_eq_true rfl⟩ ⟨hc0, hs0⟩ dL_law_696 (fun r696 I696 J696 hv => ?_)
  refine a_aload_n 2 dL_law_699 rfl rfl ?_
  refine a_aload_n 0 dL_law_700 rfl rfl ?_
  refine a_iload_n 3 dL_law_701 rfl rfl ?_
  refine a_iconst (v := 1) dL_law_702 (by decide) ?_
  refine a_iadd dL_law_703 ?_
  refine a_sld hv.1 dL_law_704 ?_
  replace hv := hv.2
  refine c_VI (As := [.int (xs (v3 + 1).toNatClampNeg)]) (rest := [.int r696]) hv K_L_94 sh_118 rfl rfl rfl (Nat.le_of_ble_eq_true rfl) ⟨Nat.le_of_ble_eq_true rfl, Nat.le_of_ble_eq_true rfl⟩ ⟨hc0, hs0⟩ dL_law_705 (fun r705 I705 J705 hv => ?_)
  refine a_icmp_eq 1437 dL_law_708 rfl (fun hc => ?_) (fun hc => ?_)
  · replace hv := hv.1 hc
    refine a_iinc 3 (v3 + 8) [(3, .int (v3 + 8)), (0, .ref b), (1, .ref (ga g 0)), (2, .ref (ga g 118))] dL_law_1437 rfl rfl (Nat.le_of_ble_eq_true rfl) rfl ?_
    refine a_goto 18 dL_law_1440 rfl ?_
    exact a_sub [1, 2, 3, 0] rfl hv
  · replace hv := hv.2 hc
    refine a_iconst (v := 0) dL_law_711 (by decide) ?_
    exact hv.elim
def VC_law_713 (nm : String) (g : GT) (b LL : Nat) (xs : Nat → Int32) (c0 s0 : Nat) (v3 : Int32) (I : IT) (J : JT) : Prop :=
  (vp_in (v3 + 1) LL ∧ (vp_in (v3 + 2) LL ∧ (SemI g 40 M_X7_hears [.ref (ga g 0), .int (xs (v3 + 1).toNatClampNeg), .int (xs (v3 + 2).toNatClampNeg)] I J (fun r724 I724 J724 => (vp_in (v3 + 1) LL ∧ (vp_in (v3 + 2) LL ∧ (SemI g 40 M_X8_hears [.ref (ga g 118), .int (xs (v3 + 1).toNatClampNeg), .int (xs (v3 + 2).toNatClampNeg)] I724 J724 (fun r738 I738 J738 => ((r724 = r738 → (Lp_law_18 nm g b LL xs c0 s0 (v3 + 8) I738 J738)) ∧ (¬ r724 = r738 → False))))))))))
set_option maxRecDepth 4000 in
theorem w_law_713 {nm : String} {g : GT} {b LL : Nat} {xs : Nat → Int32} {c0 s0 : Nat} {v3 : Int32} {I : IT} {J : JT} (hc0 : c0 ≤ 600000) (hs0 : s0 ≤ 7302250) (hv : VC_law_713 nm g b LL xs c0 s0 v3 I J) : Lp_law_713 nm g b LL xs c0 s0 v3 I J := by
  unfold VC_law_713 at hv
  unfold Lp_law_713
  refine a_aload_n 1 dL_law_713 rfl rfl ?_
  refine a_aload_n 0 dL_law_714 rfl rfl ?_
  refine a_iload_n 3 dL_law_715 rfl rfl ?_
  refine a_iconst (v := 1) dL_law_716 (by decide) ?_
  refine a_iadd dL_law_717 ?_
  refine a_sld hv.1 dL_law_718 ?_
  replace hv := hv.2
  refine a_aload_n 0 dL_law_719 rfl rfl ?_
  refine a_iload_n 3 dL_law_720 rfl rfl ?_
  refine a_iconst (v := 2) dL_law_721 (by decide) ?_
  refine a_iadd dL_law_722 ?_
  refine a_sld hv.1 dL_law_723 ?_
  replace hv := hv.2
  refine c_VI (As := [.int (xs (v3 + 1).toNatClampNeg), .int (xs (v3 + 2).toNatClampNeg)]) (rest := []) hv K_L_95 sh_0 rfl rfl rfl (Nat.le_of_ble_eq_true rfl) ⟨Nat.le_of_ble_eq_true rfl, Nat.le_of_ble_eq_true rfl⟩ ⟨hc0, hs0⟩ dL_law_724 (fun r724 I724 J724 hv => ?_)
  refine a_aload_n 2 dL_law_727 rfl rfl ?_
  refine a_aload_n 0 dL_law_728 rfl rfl ?_
  refine a_iload_n 3 dL_law_729 rfl rfl ?_
  refine a_iconst (v := 1) dL_law_730 (by decide) ?_
  refine a_iadd dL_law_731 ?_
  refine a_sld hv.1 dL_law_732 ?_
  replace hv := hv.2
  refine a_aload_n 0 dL_law_733 rfl rfl ?_
  refine a_iload_n 3 dL_law_734 rfl rfl ?_
  refine a_iconst (v := 2) dL_law_735 (by decide) ?_
  refine a_iadd dL_law_736 ?_
  refine a_sld hv.1 dL_law_737 ?_
  replace hv := hv.2
  refine c_VI (As := [.int (xs (v3 + 1).toNatClampNeg), .int (xs (v3 + 2).toNatClampNeg)]) (rest := [.int r724]) hv K_L_98 sh_118 rfl rfl rfl (Nat.le_of_ble_eq_true rfl) ⟨Nat.le_of_ble_eq_true rfl, Nat.le_of_ble_eq_true rfl⟩ ⟨hc0, hs0⟩ dL_law_738 (fun r738 I738 J738 hv => ?_)
  refine a_icmp_eq 1437 dL_law_741 rfl (fun hc => ?_) (fun hc => ?_)
  · replace hv := hv.1 hc
    refine a_iinc 3 (v3 + 8) [(3, .int (v3 + 8)), (0, .ref b), (1, .ref (ga g 0)), (2, .ref (ga g 118))] dL_law_1437 rfl rfl (Nat.le_of_ble_eq_true rfl) rfl ?_
    refine a_goto 18 dL_law_1440 rfl ?_
    exact a_sub [1, 2, 3, 0] rfl hv
  · replace hv := hv.2 hc
    refine a_iconst (v := 0) dL_law_744 (by decide) ?_
    exact hv.elim
def VC_law_746 (nm : String) (g : GT) (b LL : Nat) (xs : Nat → Int32) (c0 s0 : Nat) (v3 : Int32) (I : IT) (J : JT) : Prop :=
  (vp_in (v3 + 1) LL ∧ (SemI g 40 M_X7_links [.ref (ga g 0), .int (xs (v3 + 1).toNatClampNeg)] I J (fun r752 I752 J752 => (vp_in (v3 + 1) LL ∧ (SemI g 40 M_X8_links [.ref (ga g 118), .int (xs (v3 + 1).toNatClampNeg)] I752 J752 (fun r761 I761 J761 => ((r752 = r761 → (Lp_law_18 nm g b LL xs c0 s0 (v3 + 8) I761 J761)) ∧ (¬ r752 = r761 → False))))))))
set_option maxRecDepth 4000 in
theorem w_law_746 {nm : String} {g : GT} {b LL : Nat} {xs : Nat → Int32} {c0 s0 : Nat} {v3 : Int32} {I : IT} {J : JT} (hc0 : c0 ≤ 600000) (hs0 : s0 ≤ 7302250) (hv : VC_law_746 nm g b LL xs c0 s0 v3 I J) : Lp_law_746 nm g b LL xs c0 s0 v3 I J := by
  unfold VC_law_746 at hv
  unfold Lp_law_746
  refine a_aload_n 1 dL_law_746 rfl rfl ?_
  refine a_aload_n 0 dL_law_747 rfl rfl ?_
  refine a_iload_n 3 dL_law_748 rfl rfl ?_
  refine a_iconst (v := 1) dL_law_749 (by decide) ?_
  refine a_iadd dL_law_750 ?_
  refine a_sld hv.1 dL_law_751 ?_
  replace hv := hv.2
  refine c_VI (As := [.int (xs (v3 + 1).toNatClampNeg)]) (rest := []) hv K_L_99 sh_0 rfl rfl rfl (Nat.le_of_ble_eq_true rfl) ⟨Nat.le_of_ble_eq_true rfl, Nat.le_of_ble_eq_true rfl⟩ ⟨hc0, hs0⟩ dL_law_752 (fun r752 I752 J752 hv => ?_)
  refine a_aload_n 2 dL_law_755 rfl rfl ?_
  refine a_aload_n 0 dL_law_756 rfl rfl ?_
  refine a_iload_n 3 dL_law_757 rfl rfl ?_
  refine a_iconst (v := 1) dL_law_758 (by decide) ?_
  refine a_iadd dL_law_759 ?_
  refine a_sld hv.1 dL_law_760 ?_
  replace hv := hv.2
  refine c_VI (As := [.int (xs (v3 + 1).toNatClampNeg)]) (rest := [.int r752]) hv K_L_102 sh_118 rfl rfl rfl (Nat.le_of_ble_eq_true rfl) ⟨Nat.le_of_ble_eq_true rfl, Nat.le_of_ble_eq_true rfl⟩ ⟨hc0, hs0⟩ dL_law_761 (fun r761 I761 J761 hv => ?_)
  refine a_icmp_eq 1437 dL_law_764 rfl (fun hc => ?_) (fun hc => ?_)
  · replace hv := hv.1 hc
    refine a_iinc 3 (v3 + 8) [(3, .int (v3 + 8)), (0, .ref b), (1, .ref (ga g 0)), (2, .ref (ga g 118))] dL_law_1437 rfl rfl (Nat.le_of_ble_eq_true rfl) rfl ?_
    refine a_goto 18 dL_law_1440 rfl ?_
    exact a_sub [1, 2, 3, 0] rfl hv
  · replace hv := hv.2 hc
    refine a_iconst (v := 0) dL_law_767 (by decide) ?_
    exact hv.elim
def VC_law_769 (nm : String) (g : GT) (b LL : Nat) (xs : Nat → Int32) (c0 s0 : Nat) (v3 : Int32) (I : IT) (J : JT) : Prop :=
  (vp_in (v3 + 1) LL ∧ (vp_in (v3 + 2) LL ∧ (vp_in (v3 + 3) LL ∧ (vp_in (v3 + 4) LL ∧ (SemI g 40 M_X7_talk [.ref (ga g 0), .int (xs (v3 + 1).toNatClampNeg), .int (xs (v3 + 2).toNatClampNeg), .int (xs (v3 + 3).toNatClampNeg), .int (xs (v3 + 4).toNatClampNeg)] I J (fun r790 I790 J790 => (vp_in (v3 + 1) LL ∧ (vp_in (v3 + 2) LL ∧ (vp_in (v3 + 3) LL ∧ (vp_in (v3 + 4) LL ∧ (SemI g 40 M_X8_talk [.ref (ga g 118), .int (xs (v3 + 1).toNatClampNeg), .int (xs (v3 + 2).toNatClampNeg), .int (xs (v3 + 3).toNatClampNeg), .int (xs (v3 + 4).toNatClampNeg)] I790 J790 (fun r814 I814 J814 => ((r790 = r814 → (Lp_law_18 nm g b LL xs c0 s0 (v3 + 8) I814 J814)) ∧ (¬ r790 = r814 → False))))))))))))))
set_option maxRecDepth 4000 in
theorem w_law_769 {nm : String} {g : GT} {b LL : Nat} {xs : Nat → Int32} {c0 s0 : Nat} {v3 : Int32} {I : IT} {J : JT} (hc0 : c0 ≤ 600000) (hs0 : s0 ≤ 7302250) (hv : VC_law_769 nm g b LL xs c0 s0 v3 I J) : Lp_law_769 nm g b LL xs c0 s0 v3 I J := by
  unfold VC_law_769 at hv
  unfold Lp_law_769
  refine a_aload_n 1 dL_law_769 rfl rfl ?_
  refine a_aload_n 0 dL_law_770 rfl rfl ?_
  refine a_iload_n 3 dL_law_771 rfl rfl ?_
  refine a_iconst (v := 1) dL_law_772 (by decide) ?_
  refine a_iadd dL_law_773 ?_
  refine a_sld hv.1 dL_law_774 ?_
  replace hv := hv.2
  refine a_aload_n 0 dL_law_775 rfl rfl ?_
  refine a_iload_n 3 dL_law_776 rfl rfl ?_
  refine a_iconst (v := 2) dL_law_777 (by decide) ?_
  refine a_iadd dL_law_778 ?_
  refine a_sld hv.1 dL_law_779 ?_
  replace hv := hv.2
  refine a_aload_n 0 dL_law_780 rfl rfl ?_
  refine a_iload_n 3 dL_law_781 rfl rfl ?_
  refine a_iconst (v := 3) dL_law_782 (by decide) ?_
  refine a_iadd dL_law_783 ?_
  refine a_sld hv.1 dL_law_784 ?_
  replace hv := hv.2
  refine a_aload_n 0 dL_law_785 rfl rfl ?_
  refine a_iload_n 3 dL_law_786 rfl rfl ?_
  refine a_iconst (v := 4) dL_law_787 (by decide) ?_
  refine a_iadd dL_law_788 ?_
  refine a_sld hv.1 dL_law_789 ?_
  replace hv := hv.2
  refine c_VI (As := [.int (xs (v3 + 1).toNatClampNeg), .int (xs (v3 + 2).toNatClampNeg), .int (xs (v3 + 3).toNatClampNeg), .int (xs (v3 + 4).toNatClampNeg)]) (rest := []) hv K_L_103 sh_0 rfl rfl rfl (Nat.le_of_ble_eq_true rfl) ⟨Nat.le_of_ble_eq_true rfl, Nat.le_of_ble_eq_true rfl⟩ ⟨hc0, hs0⟩ dL_law_790 (fun r790 I790 J790 hv => ?_)
  refine a_aload_n 2 dL_law_793 rfl rfl ?_
  refine a_aload_n 0 dL_law_794 rfl rfl ?_
  refine a_iload_n 3 dL_law_795 rfl rfl ?_
  refine a_iconst (v := 1) dL_law_796 (by decide) ?_
  refine a_iadd dL_law_797 ?_
  refine a_sld hv.1 dL_law_798 ?_
  replace hv := hv.2
  refine a_aload_n 0 dL_law_799 rfl rfl ?_
  refine a_iload_n 3 dL_law_800 rfl rfl ?_
  refine a_iconst (v := 2) dL_law_801 (by decide) ?_
  refine a_iadd dL_law_802 ?_
  refine a_sld hv.1 dL_law_803 ?_
  replace hv := hv.2
  refine a_aload_n 0 dL_law_804 rfl rfl ?_
  refine a_iload_n 3 dL_law_805 rfl rfl ?_
  refine a_iconst (v := 3) dL_law_806 (by decide) ?_
  refine a_iadd dL_law_807 ?_
  refine a_sld hv.1 dL_law_808 ?_
  replace hv := hv.2
  refine a_aload_n 0 dL_law_809 rfl rfl ?_
  refine a_iload_n 3 dL_law_810 rfl rfl ?_
  refine a_iconst (v := 4) dL_law_811 (by decide) ?_
  refine a_iadd dL_law_812 ?_
  refine a_sld hv.1 dL_law_813 ?_
  replace hv := hv.2
  refine c_VI (As := [.int (xs (v3 + 1).toNatClampNeg), .int (xs (v3 + 2).toNatClampNeg), .int (xs (v3 + 3).toNatClampNeg), .int (xs (v3 + 4).toNatClampNeg)]) (rest := [.int r790]) hv K_L_106 sh_118 rfl rfl rfl (Nat.le_of_ble_eq_true rfl) ⟨Nat.le_of_ble_eq_true rfl, Nat.le_of_ble_eq_true rfl⟩ ⟨hc0, hs0⟩ dL_law_814 (fun r814 I814 J814 hv => ?_)
  refine a_icmp_eq 1437 dL_law_817 rfl (fun hc => ?_) (fun hc => ?_)
  · replace hv := hv.1 hc
    refine a_iinc 3 (v3 + 8) [(3, .int (v3 + 8)), (0, .ref b), (1, .ref (ga g 0)), (2, .ref (ga g 118))] dL_law_1437 rfl rfl (Nat.le_of_ble_eq_true rfl) rfl ?_
    refine a_goto 18 dL_law_1440 rfl ?_
    exact a_sub [1, 2, 3, 0] rfl hv
  · replace hv := hv.2 hc
    refine a_iconst (v := 0) dL_law_820 (by decide) ?_
    exact hv.elim
def VC_law_822 (nm : String) (g : GT) (b LL : Nat) (xs : Nat → Int32) (c0 s0 : Nat) (v3 : Int32) (I : IT) (J : JT) : Prop :=
  (vp_in (v3 + 1) LL ∧ (vp_in (v3 + 2) LL ∧ (vp_in (v3 + 3) LL ∧ (SemI g 40 M_X7_decades [.ref (ga g 0), .int (xs (v3 + 1).toNatClampNeg), .int (xs (v3 + 2).toNatClampNeg), .int (xs (v3 + 3).toNatClampNeg)] I J (fun r838 I838 J838 => (vp_in (v3 + 1) LL ∧ (vp_in (v3 + 2) LL ∧ (vp_in (v3 + 3) LL ∧ (SemI g 40 M_X8_decades [.ref (ga g 118), .int (xs (v3 + 1).toNatClampNeg), .int (xs (v3 + 2).toNatClampNeg), .int (xs (v3 + 3).toNatClampNeg)] I838 J838 (fun r857 I857 J857 => ((r838 = r857 → (Lp_law_18 nm g b LL xs c0 s0 (v3 + 8) I857 J857)) ∧ (¬ r838 = r857 → False))))))))))))
set_option maxRecDepth 4000 in
theorem w_law_822 {nm : String} {g : GT} {b LL : Nat} {xs : Nat → Int32} {c0 s0 : Nat} {v3 : Int32} {I : IT} {J : JT} (hc0 : c0 ≤ 600000) (hs0 : s0 ≤ 7302250) (hv : VC_law_822 nm g b LL xs c0 s0 v3 I J) : Lp_law_822 nm g b LL xs c0 s0 v3 I J := by
  unfold VC_law_822 at hv
  unfold Lp_law_822
  refine a_aload_n 1 dL_law_822 rfl rfl ?_
  refine a_aload_n 0 dL_law_823 rfl rfl ?_
  refine a_iload_n 3 dL_law_824 rfl rfl ?_
  refine a_iconst (v := 1) dL_law_825 (by decide) ?_
  refine a_iadd dL_law_826 ?_
  refine a_sld hv.1 dL_law_827 ?_
  replace hv := hv.2
  refine a_aload_n 0 dL_law_828 rfl rfl ?_
  refine a_iload_n 3 dL_law_829 rfl rfl ?_
  refine a_iconst (v := 2) dL_law_830 (by decide) ?_
  refine a_iadd dL_law_831 ?_
  refine a_sld hv.1 dL_law_832 ?_
  replace hv := hv.2
  refine a_aload_n 0 dL_law_833 rfl rfl ?_
  refine a_iload_n 3 dL_law_834 rfl rfl ?_
  refine a_iconst (v := 3) dL_law_835 (by decide) ?_
  refine a_iadd dL_law_836 ?_
  refine a_sld hv.1 dL_law_837 ?_
  replace hv := hv.2
  refine c_VI (As := [.int (xs (v3 + 1).toNatClampNeg), .int (xs (v3 + 2).toNatClampNeg), .int (xs (v3 + 3).toNatClampNeg)]) (rest := []) hv K_L_107 sh_0 rfl rfl rfl (Nat.le_of_ble_eq_true rfl) ⟨Nat.le_of_ble_eq_true rfl, Nat.le_of_ble_eq_true rfl⟩ ⟨hc0, hs0⟩ dL_law_838 (fun r838 I838 J838 hv => ?_)
  refine a_aload_n 2 dL_law_841 rfl rfl ?_
  refine a_aload_n 0 dL_law_842 rfl rfl ?_
  refine a_iload_n 3 dL_law_843 rfl rfl ?_
  refine a_iconst (v := 1) dL_law_844 (by decide) ?_
  refine a_iadd dL_law_845 ?_
  refine a_sld hv.1 dL_law_846 ?_
  replace hv := hv.2
  refine a_aload_n 0 dL_law_847 rfl rfl ?_
  refine a_iload_n 3 dL_law_848 rfl rfl ?_
  refine a_iconst (v := 2) dL_law_849 (by decide) ?_
  refine a_iadd dL_law_850 ?_
  refine a_sld hv.1 dL_law_851 ?_
  replace hv := hv.2
  refine a_aload_n 0 dL_law_852 rfl rfl ?_
  refine a_iload_n 3 dL_law_853 rfl rfl ?_
  refine a_iconst (v := 3) dL_law_854 (by decide) ?_
  refine a_iadd dL_law_855 ?_
  refine a_sld hv.1 dL_law_856 ?_
  replace hv := hv.2
  refine c_VI (As := [.int (xs (v3 + 1).toNatClampNeg), .int (xs (v3 + 2).toNatClampNeg), .int (xs (v3 + 3).toNatClampNeg)]) (rest := [.int r838]) hv K_L_110 sh_118 rfl rfl rfl (Nat.le_of_ble_eq_true rfl) ⟨Nat.le_of_ble_eq_true rfl, Nat.le_of_ble_eq_true rfl⟩ ⟨hc0, hs0⟩ dL_law_857 (fun r857 I857 J857 hv => ?_)
  refine a_icmp_eq 1437 dL_law_860 rfl (fun hc => ?_) (fun hc => ?_)
  · replace hv := hv.1 hc
    refine a_iinc 3 (v3 + 8) [(3, .int (v3 + 8)), (0, .ref b), (1, .ref (ga g 0)), (2, .ref (ga g 118))] dL_law_1437 rfl rfl (Nat.le_of_ble_eq_true rfl) rfl ?_
    refine a_goto 18 dL_law_1440 rfl ?_
    exact a_sub [1, 2, 3, 0] rfl hv
  · replace hv := hv.2 hc
    refine a_iconst (v := 0) dL_law_863 (by decide) ?_
    exact hv.elim
def VC_law_865 (nm : String) (g : GT) (b LL : Nat) (xs : Nat → Int32) (c0 s0 : Nat) (v3 : Int32) (I : IT) (J : JT) : Prop :=
  (vp_in (v3 + 1) LL ∧ (vp_in (v3 + 2) LL ∧ (vp_in (v3 + 3) LL ∧ (SemI g 40 M_X7_sheet [.ref (ga g 0), .int (xs (v3 + 1).toNatClampNeg), .int (xs (v3 + 2).toNatClampNeg), .int (xs (v3 + 3).toNatClampNeg)] I J (fun r881 I881 J881 => (vp_in (v3 + 1) LL ∧ (vp_in (v3 + 2) LL ∧ (vp_in (v3 + 3) LL ∧ (SemI g 40 M_X8_sheet [.ref (ga g 118), .int (xs (v3 + 1).toNatClampNeg), .int (xs (v3 + 2).toNatClampNeg), .int (xs (v3 + 3).toNatClampNeg)] I881 J881 (fun r900 I900 J900 => ((r881 = r900 → (Lp_law_18 nm g b LL xs c0 s0 (v3 + 8) I900 J900)) ∧ (¬ r881 = r900 → False))))))))))))
set_option maxRecDepth 4000 in
theorem w_law_865 {nm : String} {g : GT} {b LL : Nat} {xs : Nat → Int32} {c0 s0 : Nat} {v3 : Int32} {I : IT} {J : JT} (hc0 : c0 ≤ 600000) (hs0 : s0 ≤ 7302250) (hv : VC_law_865 nm g b LL xs c0 s0 v3 I J) : Lp_law_865 nm g b LL xs c0 s0 v3 I J := by
  unfold VC_law_865 at hv
  unfold Lp_law_865
  refine a_aload_n 1 dL_law_865 rfl rfl ?_
  refine a_aload_n 0 dL_law_866 rfl rfl ?_
  refine a_iload_n 3 dL_law_867 rfl rfl ?_
  refine a_iconst (v := 1) dL_law_868 (by decide) ?_
  refine a_iadd dL_law_869 ?_
  refine a_sld hv.1 dL_law_870 ?_
  replace hv := hv.2
  refine a_aload_n 0 dL_law_871 rfl rfl ?_
  refine a_iload_n 3 dL_law_872 rfl rfl ?_
  refine a_iconst (v := 2) dL_law_873 (by decide) ?_
  refine a_iadd dL_law_874 ?_
  refine a_sld hv.1 dL_law_875 ?_
  replace hv := hv.2
  refine a_aload_n 0 dL_law_876 rfl rfl ?_
  refine a_iload_n 3 dL_law_877 rfl rfl ?_
  refine a_iconst (v := 3) dL_law_878 (by decide) ?_
  refine a_iadd dL_law_879 ?_
  refine a_sld hv.1 dL_law_880 ?_
  replace hv := hv.2
  refine c_VI (As := [.int (xs (v3 + 1).toNatClampNeg), .int (xs (v3 + 2).toNatClampNeg), .int (xs (v3 + 3).toNatClampNeg)]) (rest := []) hv K_L_111 sh_0 rfl rfl rfl (Nat.le_of_ble_eq_true rfl) ⟨Nat.le_of_ble_eq_true rfl, Nat.le_of_ble_eq_true rfl⟩ ⟨hc0, hs0⟩ dL_law_881 (fun r881 I881 J881 hv => ?_)
  refine a_aload_n 2 dL_law_884 rfl rfl ?_
  refine a_aload_n 0 dL_law_885 rfl rfl ?_
  refine a_iload_n 3 dL_law_886 rfl rfl ?_
  refine a_iconst (v := 1) dL_law_887 (by decide) ?_
  refine a_iadd dL_law_888 ?_
  refine a_sld hv.1 dL_law_889 ?_
  replace hv := hv.2
  refine a_aload_n 0 dL_law_890 rfl rfl ?_
  refine a_iload_n 3 dL_law_891 rfl rfl ?_
  refine a_iconst (v := 2) dL_law_892 (by decide) ?_
  refine a_iadd dL_law_893 ?_
  refine a_sld hv.1 dL_law_894 ?_
  replace hv := hv.2
  refine a_aload_n 0 dL_law_895 rfl rfl ?_
  refine a_iload_n 3 dL_law_896 rfl rfl ?_
  refine a_iconst (v := 3) dL_law_897 (by decide) ?_
  refine a_iadd dL_law_898 ?_
  refine a_sld hv.1 dL_law_899 ?_
  replace hv := hv.2
  refine c_VI (As := [.int (xs (v3 + 1).toNatClampNeg), .int (xs (v3 + 2).toNatClampNeg), .int (xs (v3 + 3).toNatClampNeg)]) (rest := [.int r881]) hv K_L_114 sh_118 rfl rfl rfl (Nat.le_of_ble_eq_true rfl) ⟨Nat.le_of_ble_eq_true rfl, Nat.le_of_ble_eq_true rfl⟩ ⟨hc0, hs0⟩ dL_law_900 (fun r900 I900 J900 hv => ?_)
  refine a_icmp_eq 1437 dL_law_903 rfl (fun hc => ?_) (fun hc => ?_)
  · replace hv := hv.1 hc
    refine a_iinc 3 (v3 + 8) [(3, .int (v3 + 8)), (0, .ref b), (1, .ref (ga g 0)), (2, .ref (ga g 118))] dL_law_1437 rfl rfl (Nat.le_of_ble_eq_true rfl) rfl ?_
    refine a_goto 18 dL_law_1440 rfl ?_
    exact a_sub [1, 2, 3, 0] rfl hv
  · replace hv := hv.2 hc
    refine a_iconst (v := 0) dL_law_906 (by decide) ?_
    exact hv.elim
def VC_law_908 (nm : String) (g : GT) (b LL : Nat) (xs : Nat → Int32) (c0 s0 : Nat) (v3 : Int32) (I : IT) (J : JT) : Prop :=
  (vp_in (v3 + 1) LL ∧ (SemI g 40 M_X7_drop [.ref (ga g 0), .int (xs (v3 + 1).toNatClampNeg)] I J (fun r914 I914 J914 => (vp_in (v3 + 1) LL ∧ (SemI g 40 M_X8_drop [.ref (ga g 118), .int (xs (v3 + 1).toNatClampNeg)] I914 J914 (fun r923 I923 J923 => ((r914 = r923 → (Lp_law_18 nm g b LL xs c0 s0 (v3 + 8) I923 J923)) ∧ (¬ r914 = r923 → False))))))))
set_option maxRecDepth 4000 in
theorem w_law_908 {nm : String} {g : GT} {b LL : Nat} {xs : Nat → Int32} {c0 s0 : Nat} {v3 : Int32} {I : IT} {J : JT} (hc0 : c0 ≤ 600000) (hs0 : s0 ≤ 7302250) (hv : VC_law_908 nm g b LL xs c0 s0 v3 I J) : Lp_law_908 nm g b LL xs c0 s0 v3 I J := by
  unfold VC_law_908 at hv
  unfold Lp_law_908
  refine a_aload_n 1 dL_law_908 rfl rfl ?_
  refine a_aload_n 0 dL_law_909 rfl rfl ?_
  refine a_iload_n 3 dL_law_910 rfl rfl ?_
  refine a_iconst (v := 1) dL_law_911 (by decide) ?_
  refine a_iadd dL_law_912 ?_
  refine a_sld hv.1 dL_law_913 ?_
  replace hv := hv.2
  refine c_VI (As := [.int (xs (v3 + 1).toNatClampNeg)]) (rest := []) hv K_L_115 sh_0 rfl rfl rfl (Nat.le_of_ble_eq_true rfl) ⟨Nat.le_of_ble_eq_true rfl, Nat.le_of_ble_eq_true rfl⟩ ⟨hc0, hs0⟩ dL_law_914 (fun r914 I914 J914 hv => ?_)
  refine a_aload_n 2 dL_law_917 rfl rfl ?_
  refine a_aload_n 0 dL_law_918 rfl rfl ?_
  refine a_iload_n 3 dL_law_919 rfl rfl ?_
  refine a_iconst (v := 1) dL_law_920 (by decide) ?_
  refine a_iadd dL_law_921 ?_
  refine a_sld hv.1 dL_law_922 ?_
  replace hv := hv.2
  refine c_VI (As := [.int (xs (v3 + 1).toNatClampNeg)]) (rest := [.int r914]) hv K_L_118 sh_118 rfl rfl rfl (Nat.le_of_ble_eq_true rfl) ⟨Nat.le_of_ble_eq_true rfl, Nat.le_of_ble_eq_true rfl⟩ ⟨hc0, hs0⟩ dL_law_923 (fun r923 I923 J923 hv => ?_)
  refine a_icmp_eq 1437 dL_law_926 rfl (fun hc => ?_) (fun hc => ?_)
  · replace hv := hv.1 hc
    refine a_iinc 3 (v3 + 8) [(3, .int (v3 + 8)), (0, .ref b), (1, .ref (ga g 0)), (2, .ref (ga g 118))] dL_law_1437 rfl rfl (Nat.le_of_ble_eq_true rfl) rfl ?_
    refine a_goto 18 dL_law_1440 rfl ?_
    exact a_sub [1, 2, 3, 0] rfl hv
  · replace hv := hv.2 hc
    refine a_iconst (v := 0) dL_law_929 (by decide) ?_
    exact hv.elim
def VC_law_931 (nm : String) (g : GT) (b LL : Nat) (xs : Nat → Int32) (c0 s0 : Nat) (v3 : Int32) (I : IT) (J : JT) : Prop :=
  (vp_in (v3 + 1) LL ∧ (vp_in (v3 + 2) LL ∧ (vp_in (v3 + 3) LL ∧ (vp_in (v3 + 4) LL ∧ (vp_in (v3 + 5) LL ∧ (SemL g 40 M_X7_item [.ref (ga g 0), .int (xs (v3 + 1).toNatClampNeg), .int (xs (v3 + 2).toNatClampNeg), .int (xs (v3 + 3).toNatClampNeg), .long ((((xs (v3 + 4).toNatClampNeg).toInt64) <<< ((32 : Int32).toInt64 &&& 63)) ||| (((xs (v3 + 5).toNatClampNeg).toInt64) &&& 4294967295))] I J (fun r967 I967 J967 => (vp_in (v3 + 1) LL ∧ (vp_in (v3 + 2) LL ∧ (vp_in (v3 + 3) LL ∧ (vp_in (v3 + 4) LL ∧ (vp_in (v3 + 5) LL ∧ (SemL g 40 M_X8_item [.ref (ga g 118), .int (xs (v3 + 1).toNatClampNeg), .int (xs (v3 + 2).toNatClampNeg), .int (xs (v3 + 3).toNatClampNeg), .long ((((xs (v3 + 4).toNatClampNeg).toInt64) <<< ((32 : Int32).toInt64 &&& 63)) ||| (((xs (v3 + 5).toNatClampNeg).toInt64) &&& 4294967295))] I967 J967 (fun r1006 I1006 J1006 => ((r967 = r1006 → (Lp_law_18 nm g b LL xs c0 s0 (v3 + 8) I1006 J1006)) ∧ (¬ r967 = r1006 → False))))))))))))))))
set_option maxRecDepth 4000 in
theorem w_law_931 {nm : String} {g : GT} {b LL : Nat} {xs : Nat → Int32} {c0 s0 : Nat} {v3 : Int32} {I : IT} {J : JT} (hc0 : c0 ≤ 600000) (hs0 : s0 ≤ 7302250) (hv : VC_law_931 nm g b LL xs c0 s0 v3 I J) : Lp_law_931 nm g b LL xs c0 s0 v3 I J := by
  unfold VC_law_931 at hv
  unfold Lp_law_931
  refine a_aload_n 1 dL_law_931 rfl rfl ?_
  refine a_aload_n 0 dL_law_932 rfl rfl ?_
  refine a_iload_n 3 dL_law_933 rfl rfl ?_
  refine a_iconst (v := 1) dL_law_934 (by decide) ?_
  refine a_iadd dL_law_935 ?_
  refine a_sld hv.1 dL_law_936 ?_
  replace hv := hv.2
  refine a_aload_n 0 dL_law_937 rfl rfl ?_
  refine a_iload_n 3 dL_law_938 rfl rfl ?_
  refine a_iconst (v := 2) dL_law_939 (by decide) ?_
  refine a_iadd dL_law_940 ?_
  refine a_sld hv.1 dL_law_941 ?_
  replace hv := hv.2
  refine a_aload_n 0 dL_law_942 rfl rfl ?_
  refine a_iload_n 3 dL_law_943 rfl rfl ?_
  refine a_iconst (v := 3) dL_law_944 (by decide) ?_
  refine a_iadd dL_law_945 ?_
  refine a_sld hv.1 dL_law_946 ?_
  replace hv := hv.2
  refine a_aload_n 0 dL_law_947 rfl rfl ?_
  refine a_iload_n 3 dL_law_948 rfl rfl ?_
  refine a_iconst (v := 4) dL_law_949 (by decide) ?_
  refine a_iadd dL_law_950 ?_
  refine a_sld hv.1 dL_law_951 ?_
  replace hv := hv.2
  refine a_i2l dL_law_952 ?_
  refine a_bipush (v := 32) dL_law_953 (by decide) ?_
  refine a_lshl dL_law_955 ?_
  refine a_aload_n 0 dL_law_956 rfl rfl ?_
  refine a_iload_n 3 dL_law_957 rfl rfl ?_
  refine a_iconst (v := 5) dL_law_958 (by decide) ?_
  refine a_iadd dL_law_959 ?_
  refine a_sld hv.1 dL_law_960 ?_
  replace hv := hv.2
  refine a_i2l dL_law_961 ?_
  refine a_ldc2 (v := 4294967295) dL_law_962 cl_L_119 ?_
  refine a_land dL_law_965 ?_
  refine a_lor dL_law_966 ?_
  refine c_VL (As := [.int (xs (v3 + 1).toNatClampNeg), .int (xs (v3 + 2).toNatClampNeg), .int (xs (v3 + 3).toNatClampNeg), .long ((((xs (v3 + 4).toNatClampNeg).toInt64) <<< ((32 : Int32).toInt64 &&& 63)) ||| (((xs (v3 + 5).toNatClampNeg).toInt64) &&& 4294967295))]) (rest := []) hv K_L_121 sh_0 rfl rfl rfl (Nat.le_of_ble_eq_true rfl) ⟨Nat.le_of_ble_eq_true rfl, Nat.le_of_ble_eq_true rfl⟩ ⟨hc0, hs0⟩ dL_law_967 (fun r967 I967 J967 hv => ?_)
  refine a_aload_n 2 dL_law_970 rfl rfl ?_
  refine a_aload_n 0 dL_law_971 rfl rfl ?_
  refine a_iload_n 3 dL_law_972 rfl rfl ?_
  refine a_iconst (v := 1) dL_law_973 (by decide) ?_
  refine a_iadd dL_law_974 ?_
  refine a_sld hv.1 dL_law_975 ?_
  replace hv := hv.2
  refine a_aload_n 0 dL_law_976 rfl rfl ?_
  refine a_iload_n 3 dL_law_977 rfl rfl ?_
  refine a_iconst (v := 2) dL_law_978 (by decide) ?_
  refine a_iadd dL_law_979 ?_
  refine a_sld hv.1 dL_law_980 ?_
  replace hv := hv.2
  refine a_aload_n 0 dL_law_981 rfl rfl ?_
  refine a_iload_n 3 dL_law_982 rfl rfl ?_
  refine a_iconst (v := 3) dL_law_983 (by decide) ?_
  refine a_iadd dL_law_984 ?_
  refine a_sld hv.1 dL_law_985 ?_
  replace hv := hv.2
  refine a_aload_n 0 dL_law_986 rfl rfl ?_
  refine a_iload_n 3 dL_law_987 rfl rfl ?_
  refine a_iconst (v := 4) dL_law_988 (by decide) ?_
  refine a_iadd dL_law_989 ?_
  refine a_sld hv.1 dL_law_990 ?_
  replace hv := hv.2
  refine a_i2l dL_law_991 ?_
  refine a_bipush (v := 32) dL_law_992 (by decide) ?_
  refine a_lshl dL_law_994 ?_
  refine a_aload_n 0 dL_law_995 rfl rfl ?_
  refine a_iload_n 3 dL_law_996 rfl rfl ?_
  refine a_iconst (v := 5) dL_law_997 (by decide) ?_
  refine a_iadd dL_law_998 ?_
  refine a_sld hv.1 dL_law_999 ?_
  replace hv := hv.2
  refine a_i2l dL_law_1000 ?_
  refine a_ldc2 (v := 4294967295) dL_law_1001 cl_L_119 ?_
  refine a_land dL_law_1004 ?_
  refine a_lor dL_law_1005 ?_
  refine c_VL (As := [.int (xs (v3 + 1).toNatClampNeg), .int (xs (v3 + 2).toNatClampNeg), .int (xs (v3 + 3).toNatClampNeg), .long ((((xs (v3 + 4).toNatClampNeg).toInt64) <<< ((32 : Int32).toInt64 &&& 63)) ||| (((xs (v3 + 5).toNatClampNeg).toInt64) &&& 4294967295))]) (rest := [.long r967]) hv K_L_125 sh_118 rfl rfl rfl (Nat.le_of_ble_eq_true rfl) ⟨Nat.le_of_ble_eq_true rfl, Nat.le_of_ble_eq_true rfl⟩ ⟨hc0, hs0⟩ dL_law_1006 (fun r1006 I1006 J1006 hv => ?_)
  refine a_lcmp dL_law_1009 ?_
  refine a_lcmp_eq 1437 dL_law_1010 rfl (fun hc => ?_) (fun hc => ?_)
  · replace hv := hv.1 hc
    refine a_iinc 3 (v3 + 8) [(3, .int (v3 + 8)), (0, .ref b), (1, .ref (ga g 0)), (2, .ref (ga g 118))] dL_law_1437 rfl rfl (Nat.le_of_ble_eq_true rfl) rfl ?_
    refine a_goto 18 dL_law_1440 rfl ?_
    exact a_sub [1, 2, 3, 0] rfl hv
  · replace hv := hv.2 hc
    refine a_iconst (v := 0) dL_law_1013 (by decide) ?_
    exact hv.elim
def VC_law_1015 (nm : String) (g : GT) (b LL : Nat) (xs : Nat → Int32) (c0 s0 : Nat) (v3 : Int32) (I : IT) (J : JT) : Prop :=
  (vp_in (v3 + 1) LL ∧ (vp_in (v3 + 2) LL ∧ (vp_in (v3 + 3) LL ∧ (vp_in (v3 + 4) LL ∧ (vp_in (v3 + 5) LL ∧ (SemI g 40 M_X7_copy [.ref (ga g 0), .int (xs (v3 + 1).toNatClampNeg), .int (xs (v3 + 2).toNatClampNeg), .int (xs (v3 + 3).toNatClampNeg), .int (xs (v3 + 4).toNatClampNeg), .int (xs (v3 + 5).toNatClampNeg)] I J (fun r1041 I1041 J1041 => (vp_in (v3 + 1) LL ∧ (vp_in (v3 + 2) LL ∧ (vp_in (v3 + 3) LL ∧ (vp_in (v3 + 4) LL ∧ (vp_in (v3 + 5) LL ∧ (SemI g 40 M_X8_copy [.ref (ga g 118), .int (xs (v3 + 1).toNatClampNeg), .int (xs (v3 + 2).toNatClampNeg), .int (xs (v3 + 3).toNatClampNeg), .int (xs (v3 + 4).toNatClampNeg), .int (xs (v3 + 5).toNatClampNeg)] I1041 J1041 (fun r1070 I1070 J1070 => ((r1041 = r1070 → (Lp_law_18 nm g b LL xs c0 s0 (v3 + 8) I1070 J1070)) ∧ (¬ r1041 = r1070 → False))))))))))))))))
set_option maxRecDepth 4000 in
theorem w_law_1015 {nm : String} {g : GT} {b LL : Nat} {xs : Nat → Int32} {c0 s0 : Nat} {v3 : Int32} {I : IT} {J : JT} (hc0 : c0 ≤ 600000) (hs0 : s0 ≤ 7302250) (hv : VC_law_1015 nm g b LL xs c0 s0 v3 I J) : Lp_law_1015 nm g b LL xs c0 s0 v3 I J := by
  unfold VC_law_1015 at hv
  unfold Lp_law_1015
  refine a_aload_n 1 dL_law_1015 rfl rfl ?_
  refine a_aload_n 0 dL_law_1016 rfl rfl ?_
  refine a_iload_n 3 dL_law_1017 rfl rfl ?_
  refine a_iconst (v := 1) dL_law_1018 (by decide) ?_
  refine a_iadd dL_law_1019 ?_
  refine a_sld hv.1 dL_law_1020 ?_
  replace hv := hv.2
  refine a_aload_n 0 dL_law_1021 rfl rfl ?_
  refine a_iload_n 3 dL_law_1022 rfl rfl ?_
  refine a_iconst (v := 2) dL_law_1023 (by decide) ?_
  refine a_iadd dL_law_1024 ?_
  refine a_sld hv.1 dL_law_1025 ?_
  replace hv := hv.2
  refine a_aload_n 0 dL_law_1026 rfl rfl ?_
  refine a_iload_n 3 dL_law_1027 rfl rfl ?_
  refine a_iconst (v := 3) dL_law_1028 (by decide) ?_
  refine a_iadd dL_law_1029 ?_
  refine a_sld hv.1 dL_law_1030 ?_
  replace hv := hv.2
  refine a_aload_n 0 dL_law_1031 rfl rfl ?_
  refine a_iload_n 3 dL_law_1032 rfl rfl ?_
  refine a_iconst (v := 4) dL_law_1033 (by decide) ?_
  refine a_iadd dL_law_1034 ?_
  refine a_sld hv.1 dL_law_1035 ?_
  replace hv := hv.2
  refine a_aload_n 0 dL_law_1036 rfl rfl ?_
  refine a_iload_n 3 dL_law_1037 rfl rfl ?_
  refine a_iconst (v := 5) dL_law_1038 (by decide) ?_
  refine a_iadd dL_law_1039 ?_
  refine a_sld hv.1 dL_law_1040 ?_
  replace hv := hv.2
  refine c_VI (As := [.int (xs (v3 + 1).toNatClampNeg), .int (xs (v3 + 2).toNatClampNeg), .int (xs (v3 + 3).toNatClampNeg), .int (xs (v3 + 4).toNatClampNeg), .int (xs (v3 + 5).toNatClampNeg)]) (rest := []) hv K_L_126 sh_0 rfl rfl rfl (Nat.le_of_ble_eq_true rfl) ⟨Nat.le_of_ble_eq_true rfl, Nat.le_of_ble_eq_true rfl⟩ ⟨hc0, hs0⟩ dL_law_1041 (fun r1041 I1041 J1041 hv => ?_)
  refine a_aload_n 2 dL_law_1044 rfl rfl ?_
  refine a_aload_n 0 dL_law_1045 rfl rfl ?_
  refine a_iload_n 3 dL_law_1046 rfl rfl ?_
  refine a_iconst (v := 1) dL_law_1047 (by decide) ?_
  refine a_iadd dL_law_1048 ?_
  refine a_sld hv.1 dL_law_1049 ?_
  replace hv := hv.2
  refine a_aload_n 0 dL_law_1050 rfl rfl ?_
  refine a_iload_n 3 dL_law_1051 rfl rfl ?_
  refine a_iconst (v := 2) dL_law_1052 (by decide) ?_
  refine a_iadd dL_law_1053 ?_
  refine a_sld hv.1 dL_law_1054 ?_
  replace hv := hv.2
  refine a_aload_n 0 dL_law_1055 rfl rfl ?_
  refine a_iload_n 3 dL_law_1056 rfl rfl ?_
  refine a_iconst (v := 3) dL_law_1057 (by decide) ?_
  refine a_iadd dL_law_1058 ?_
  refine a_sld hv.1 dL_law_1059 ?_
  replace hv := hv.2
  refine a_aload_n 0 dL_law_1060 rfl rfl ?_
  refine a_iload_n 3 dL_law_1061 rfl rfl ?_
  refine a_iconst (v := 4) dL_law_1062 (by decide) ?_
  refine a_iadd dL_law_1063 ?_
  refine a_sld hv.1 dL_law_1064 ?_
  replace hv := hv.2
  refine a_aload_n 0 dL_law_1065 rfl rfl ?_
  refine a_iload_n 3 dL_law_1066 rfl rfl ?_
  refine a_iconst (v := 5) dL_law_1067 (by decide) ?_
  refine a_iadd dL_law_1068 ?_
  refine a_sld hv.1 dL_law_1069 ?_
  replace hv := hv.2
  refine c_VI (As := [.int (xs (v3 + 1).toNatClampNeg), .int (xs (v3 + 2).toNatClampNeg), .int (xs (v3 + 3).toNatClampNeg), .int (xs (v3 + 4).toNatClampNeg), .int (xs (v3 + 5).toNatClampNeg)]) (rest := [.int r1041]) hv K_L_129 sh_118 rfl rfl rfl (Nat.le_of_ble_eq_true rfl) ⟨Nat.le_of_ble_eq_true rfl, Nat.le_of_ble_eq_true rfl⟩ ⟨hc0, hs0⟩ dL_law_1070 (fun r1070 I1070 J1070 hv => ?_)
  refine a_icmp_eq 1437 dL_law_1073 rfl (fun hc => ?_) (fun hc => ?_)
  · replace hv := hv.1 hc
    refine a_iinc 3 (v3 + 8) [(3, .int (v3 + 8)), (0, .ref b), (1, .ref (ga g 0)), (2, .ref (ga g 118))] dL_law_1437 rfl rfl (Nat.le_of_ble_eq_true rfl) rfl ?_
    refine a_goto 18 dL_law_1440 rfl ?_
    exact a_sub [1, 2, 3, 0] rfl hv
  · replace hv := hv.2 hc
    refine a_iconst (v := 0) dL_law_1076 (by decide) ?_
    exact hv.elim
def VC_law_1078 (nm : String) (g : GT) (b LL : Nat) (xs : Nat → Int32) (c0 s0 : Nat) (v3 : Int32) (I : IT) (J : JT) : Prop :=
  (vp_in (v3 + 1) LL ∧ (vp_in (v3 + 2) LL ∧ (vp_in (v3 + 3) LL ∧ (vp_in (v3 + 4) LL ∧ (vp_in (v3 + 5) LL ∧ (vp_in (v3 + 6) LL ∧ (SemI g 40 M_X7_log [.ref (ga g 0), .int (xs (v3 + 1).toNatClampNeg), .int (xs (v3 + 2).toNatClampNeg), .int (xs (v3 + 3).toNatClampNeg), .int (xs (v3 + 4).toNatClampNeg), .int (xs (v3 + 5).toNatClampNeg), .int (xs (v3 + 6).toNatClampNeg)] I J (fun r1110 I1110 J1110 => (vp_in (v3 + 1) LL ∧ (vp_in (v3 + 2) LL ∧ (vp_in (v3 + 3) LL ∧ (vp_in (v3 + 4) LL ∧ (vp_in (v3 + 5) LL ∧ (vp_in (v3 + 6) LL ∧ (SemI g 40 M_X8_log [.ref (ga g 118), .int (xs (v3 + 1).toNatClampNeg), .int (xs (v3 + 2).toNatClampNeg), .int (xs (v3 + 3).toNatClampNeg), .int (xs (v3 + 4).toNatClampNeg), .int (xs (v3 + 5).toNatClampNeg), .int (xs (v3 + 6).toNatClampNeg)] I1110 J1110 (fun r1145 I1145 J1145 => ((r1110 = r1145 → (Lp_law_18 nm g b LL xs c0 s0 (v3 + 8) I1145 J1145)) ∧ (¬ r1110 = r1145 → False))))))))))))))))))
set_option maxRecDepth 4000 in
theorem w_law_1078 {nm : String} {g : GT} {b LL : Nat} {xs : Nat → Int32} {c0 s0 : Nat} {v3 : Int32} {I : IT} {J : JT} (hc0 : c0 ≤ 600000) (hs0 : s0 ≤ 7302250) (hv : VC_law_1078 nm g b LL xs c0 s0 v3 I J) : Lp_law_1078 nm g b LL xs c0 s0 v3 I J := by
  unfold VC_law_1078 at hv
  unfold Lp_law_1078
  refine a_aload_n 1 dL_law_1078 rfl rfl ?_
  refine a_aload_n 0 dL_law_1079 rfl rfl ?_
  refine a_iload_n 3 dL_law_1080 rfl rfl ?_
  refine a_iconst (v := 1) dL_law_1081 (by decide) ?_
  refine a_iadd dL_law_1082 ?_
  refine a_sld hv.1 dL_law_1083 ?_
  replace hv := hv.2
  refine a_aload_n 0 dL_law_1084 rfl rfl ?_
  refine a_iload_n 3 dL_law_1085 rfl rfl ?_
  refine a_iconst (v := 2) dL_law_1086 (by decide) ?_
  refine a_iadd dL_law_1087 ?_
  refine a_sld hv.1 dL_law_1088 ?_
  replace hv := hv.2
  refine a_aload_n 0 dL_law_1089 rfl rfl ?_
  refine a_iload_n 3 dL_law_1090 rfl rfl ?_
  refine a_iconst (v := 3) dL_law_1091 (by decide) ?_
  refine a_iadd dL_law_1092 ?_
  refine a_sld hv.1 dL_law_1093 ?_
  replace hv := hv.2
  refine a_aload_n 0 dL_law_1094 rfl rfl ?_
  refine a_iload_n 3 dL_law_1095 rfl rfl ?_
  refine a_iconst (v := 4) dL_law_1096 (by decide) ?_
  refine a_iadd dL_law_1097 ?_
  refine a_sld hv.1 dL_law_1098 ?_
  replace hv := hv.2
  refine a_aload_n 0 dL_law_1099 rfl rfl ?_
  refine a_iload_n 3 dL_law_1100 rfl rfl ?_
  refine a_iconst (v := 5) dL_law_1101 (by decide) ?_
  refine a_iadd dL_law_1102 ?_
  refine a_sld hv.1 dL_law_1103 ?_
  replace hv := hv.2
  refine a_aload_n 0 dL_law_1104 rfl rfl ?_
  refine a_iload_n 3 dL_law_1105 rfl rfl ?_
  refine a_bipush (v := 6) dL_law_1106 (by decide) ?_
  refine a_iadd dL_law_1108 ?_
  refine a_sld hv.1 dL_law_1109 ?_
  replace hv := hv.2
  refine c_VI (As := [.int (xs (v3 + 1).toNatClampNeg), .int (xs (v3 + 2).toNatClampNeg), .int (xs (v3 + 3).toNatClampNeg), .int (xs (v3 + 4).toNatClampNeg), .int (xs (v3 + 5).toNatClampNeg), .int (xs (v3 + 6).toNatClampNeg)]) (rest := []) hv K_L_130 sh_0 rfl rfl rfl (Nat.le_of_ble_eq_true rfl) ⟨Nat.le_of_ble_eq_true rfl, Nat.le_of_ble_eq_true rfl⟩ ⟨hc0, hs0⟩ dL_law_1110 (fun r1110 I1110 J1110 hv => ?_)
  refine a_aload_n 2 dL_law_1113 rfl rfl ?_
  refine a_aload_n 0 dL_law_1114 rfl rfl ?_
  refine a_iload_n 3 dL_law_1115 rfl rfl ?_
  refine a_iconst (v := 1) dL_law_1116 (by decide) ?_
  refine a_iadd dL_law_1117 ?_
  refine a_sld hv.1 dL_law_1118 ?_
  replace hv := hv.2
  refine a_aload_n 0 dL_law_1119 rfl rfl ?_
  refine a_iload_n 3 dL_law_1120 rfl rfl ?_
  refine a_iconst (v := 2) dL_law_1121 (by decide) ?_
  refine a_iadd dL_law_1122 ?_
  refine a_sld hv.1 dL_law_1123 ?_
  replace hv := hv.2
  refine a_aload_n 0 dL_law_1124 rfl rfl ?_
  refine a_iload_n 3 dL_law_1125 rfl rfl ?_
  refine a_iconst (v := 3) dL_law_1126 (by decide) ?_
  refine a_iadd dL_law_1127 ?_
  refine a_sld hv.1 dL_law_1128 ?_
  replace hv := hv.2
  refine a_aload_n 0 dL_law_1129 rfl rfl ?_
  refine a_iload_n 3 dL_law_1130 rfl rfl ?_
  refine a_iconst (v := 4) dL_law_1131 (by decide) ?_
  refine a_iadd dL_law_1132 ?_
  refine a_sld hv.1 dL_law_1133 ?_
  replace hv := hv.2
  refine a_aload_n 0 dL_law_1134 rfl rfl ?_
  refine a_iload_n 3 dL_law_1135 rfl rfl ?_
  refine a_iconst (v := 5) dL_law_1136 (by decide) ?_
  refine a_iadd dL_law_1137 ?_
  refine a_sld hv.1 dL_law_1138 ?_
  replace hv := hv.2
  refine a_aload_n 0 dL_law_1139 rfl rfl ?_
  refine a_iload_n 3 dL_law_1140 rfl rfl ?_
  refine a_bipush (v := 6) dL_law_1141 (by decide) ?_
  refine a_iadd dL_law_1143 ?_
  refine a_sld hv.1 dL_law_1144 ?_
  replace hv := hv.2
  refine c_VI (As := [.int (xs (v3 + 1).toNatClampNeg), .int (xs (v3 + 2).toNatClampNeg), .int (xs (v3 + 3).toNatClampNeg), .int (xs (v3 + 4).toNatClampNeg), .int (xs (v3 + 5).toNatClampNeg), .int (xs (v3 + 6).toNatClampNeg)]) (rest := [.int r1110]) hv K_L_134 sh_118 rfl rfl rfl (Nat.le_of_ble_eq_true rfl) ⟨Nat.le_of_ble_eq_true rfl, Nat.le_of_ble_eq_true rfl⟩ ⟨hc0, hs0⟩ dL_law_1145 (fun r1145 I1145 J1145 hv => ?_)
  refine a_icmp_eq 1437 dL_law_1148 rfl (fun hc => ?_) (fun hc => ?_)
  · replace hv := hv.1 hc
    refine a_iinc 3 (v3 + 8) [(3, .int (v3 + 8)), (0, .ref b), (1, .ref (ga g 0)), (2, .ref (ga g 118))] dL_law_1437 rfl rfl (Nat.le_of_ble_eq_true rfl) rfl ?_
    refine a_goto 18 dL_law_1440 rfl ?_
    exact a_sub [1, 2, 3, 0] rfl hv
  · replace hv := hv.2 hc
    refine a_iconst (v := 0) dL_law_1151 (by decide) ?_
    exact hv.elim
def VC_law_1153 (nm : String) (g : GT) (b LL : Nat) (xs : Nat → Int32) (c0 s0 : Nat) (v3 : Int32) (I : IT) (J : JT) : Prop :=
  (vp_in (v3 + 1) LL ∧ (vp_in (v3 + 2) LL ∧ (vp_in (v3 + 3) LL ∧ (vp_in (v3 + 4) LL ∧ (vp_in (v3 + 5) LL ∧ (vp_in (v3 + 6) LL ∧ (vp_in (v3 + 7) LL ∧ (SemI g 40 M_X7_rows [.ref (ga g 0), .int (xs (v3 + 1).toNatClampNeg), .int (xs (v3 + 2).toNatClampNeg), .int (xs (v3 + 3).toNatClampNeg), .int (xs (v3 + 4).toNatClampNeg), .int (xs (v3 + 5).toNatClampNeg), .int (xs (v3 + 6).toNatClampNeg), .int (xs (v3 + 7).toNatClampNeg)] I J (fun r1191 I1191 J1191 => (vp_in (v3 + 1) LL ∧ (vp_in (v3 + 2) LL ∧ (vp_in (v3 + 3) LL ∧ (vp_in (v3 + 4) LL ∧ (vp_in (v3 + 5) LL ∧ (vp_in (v3 + 6) LL ∧ (vp_in (v3 + 7) LL ∧ (SemI g 40 M_X8_rows [.ref (ga g 118), .int (xs (v3 + 1).toNatClampNeg), .int (xs (v3 + 2).toNatClampNeg), .int (xs (v3 + 3).toNatClampNeg), .int (xs (v3 + 4).toNatClampNeg), .int (xs (v3 + 5).toNatClampNeg), .int (xs (v3 + 6).toNatClampNeg), .int (xs (v3 + 7).toNatClampNeg)] I1191 J1191 (fun r1232 I1232 J1232 => ((r1191 = r1232 → (Lp_law_18 nm g b LL xs c0 s0 (v3 + 8) I1232 J1232)) ∧ (¬ r1191 = r1232 → False))))))))))))))))))))
set_option maxRecDepth 4000 in
theorem w_law_1153 {nm : String} {g : GT} {b LL : Nat} {xs : Nat → Int32} {c0 s0 : Nat} {v3 : Int32} {I : IT} {J : JT} (hc0 : c0 ≤ 600000) (hs0 : s0 ≤ 7302250) (hv : VC_law_1153 nm g b LL xs c0 s0 v3 I J) : Lp_law_1153 nm g b LL xs c0 s0 v3 I J := by
  unfold VC_law_1153 at hv
  unfold Lp_law_1153
  refine a_aload_n 1 dL_law_1153 rfl rfl ?_
  refine a_aload_n 0 dL_law_1154 rfl rfl ?_
  refine a_iload_n 3 dL_law_1155 rfl rfl ?_
  refine a_iconst (v := 1) dL_law_1156 (by decide) ?_
  refine a_iadd dL_law_1157 ?_
  refine a_sld hv.1 dL_law_1158 ?_
  replace hv := hv.2
  refine a_aload_n 0 dL_law_1159 rfl rfl ?_
  refine a_iload_n 3 dL_law_1160 rfl rfl ?_
  refine a_iconst (v := 2) dL_law_1161 (by decide) ?_
  refine a_iadd dL_law_1162 ?_
  refine a_sld hv.1 dL_law_1163 ?_
  replace hv := hv.2
  refine a_aload_n 0 dL_law_1164 rfl rfl ?_
  refine a_iload_n 3 dL_law_1165 rfl rfl ?_
  refine a_iconst (v := 3) dL_law_1166 (by decide) ?_
  refine a_iadd dL_law_1167 ?_
  refine a_sld hv.1 dL_law_1168 ?_
  replace hv := hv.2
  refine a_aload_n 0 dL_law_1169 rfl rfl ?_
  refine a_iload_n 3 dL_law_1170 rfl rfl ?_
  refine a_iconst (v := 4) dL_law_1171 (by decide) ?_
  refine a_iadd dL_law_1172 ?_
  refine a_sld hv.1 dL_law_1173 ?_
  replace hv := hv.2
  refine a_aload_n 0 dL_law_1174 rfl rfl ?_
  refine a_iload_n 3 dL_law_1175 rfl rfl ?_
  refine a_iconst (v := 5) dL_law_1176 (by decide) ?_
  refine a_iadd dL_law_1177 ?_
  refine a_sld hv.1 dL_law_1178 ?_
  replace hv := hv.2
  refine a_aload_n 0 dL_law_1179 rfl rfl ?_
  refine a_iload_n 3 dL_law_1180 rfl rfl ?_
  refine a_bipush (v := 6) dL_law_1181 (by decide) ?_
  refine a_iadd dL_law_1183 ?_
  refine a_sld hv.1 dL_law_1184 ?_
  replace hv := hv.2
  refine a_aload_n 0 dL_law_1185 rfl rfl ?_
  refine a_iload_n 3 dL_law_1186 rfl rfl ?_
  refine a_bipush (v := 7) dL_law_1187 (by decide) ?_
  refine a_iadd dL_law_1189 ?_
  refine a_sld hv.1 dL_law_1190 ?_
  replace hv := hv.2
  refine c_VI (As := [.int (xs (v3 + 1).toNatClampNeg), .int (xs (v3 + 2).toNatClampNeg), .int (xs (v3 + 3).toNatClampNeg), .int (xs (v3 + 4).toNatClampNeg), .int (xs (v3 + 5).toNatClampNeg), .int (xs (v3 + 6).toNatClampNeg), .int (xs (v3 + 7).toNatClampNeg)]) (rest := []) hv K_L_135 sh_0 rfl rfl rfl (Nat.le_of_ble_eq_true rfl) ⟨Nat.le_of_ble_eq_true rfl, Nat.le_of_ble_eq_true rfl⟩ ⟨hc0, hs0⟩ dL_law_1191 (fun r1191 I1191 J1191 hv => ?_)
  refine a_aload_n 2 dL_law_1194 rfl rfl ?_
  refine a_aload_n 0 dL_law_1195 rfl rfl ?_
  refine a_iload_n 3 dL_law_1196 rfl rfl ?_
  refine a_iconst (v := 1) dL_law_1197 (by decide) ?_
  refine a_iadd dL_law_1198 ?_
  refine a_sld hv.1 dL_law_1199 ?_
  replace hv := hv.2
  refine a_aload_n 0 dL_law_1200 rfl rfl ?_
  refine a_iload_n 3 dL_law_1201 rfl rfl ?_
  refine a_iconst (v := 2) dL_law_1202 (by decide) ?_
  refine a_iadd dL_law_1203 ?_
  refine a_sld hv.1 dL_law_1204 ?_
  replace hv := hv.2
  refine a_aload_n 0 dL_law_1205 rfl rfl ?_
  refine a_iload_n 3 dL_law_1206 rfl rfl ?_
  refine a_iconst (v := 3) dL_law_1207 (by decide) ?_
  refine a_iadd dL_law_1208 ?_
  refine a_sld hv.1 dL_law_1209 ?_
  replace hv := hv.2
  refine a_aload_n 0 dL_law_1210 rfl rfl ?_
  refine a_iload_n 3 dL_law_1211 rfl rfl ?_
  refine a_iconst (v := 4) dL_law_1212 (by decide) ?_
  refine a_iadd dL_law_1213 ?_
  refine a_sld hv.1 dL_law_1214 ?_
  replace hv := hv.2
  refine a_aload_n 0 dL_law_1215 rfl rfl ?_
  refine a_iload_n 3 dL_law_1216 rfl rfl ?_
  refine a_iconst (v := 5) dL_law_1217 (by decide) ?_
  refine a_iadd dL_law_1218 ?_
  refine a_sld hv.1 dL_law_1219 ?_
  replace hv := hv.2
  refine a_aload_n 0 dL_law_1220 rfl rfl ?_
  refine a_iload_n 3 dL_law_1221 rfl rfl ?_
  refine a_bipush (v := 6) dL_law_1222 (by decide) ?_
  refine a_iadd dL_law_1224 ?_
  refine a_sld hv.1 dL_law_1225 ?_
  replace hv := hv.2
  refine a_aload_n 0 dL_law_1226 rfl rfl ?_
  refine a_iload_n 3 dL_law_1227 rfl rfl ?_
  refine a_bipush (v := 7) dL_law_1228 (by decide) ?_
  refine a_iadd dL_law_1230 ?_
  refine a_sld hv.1 dL_law_1231 ?_
  replace hv := hv.2
  refine c_VI (As := [.int (xs (v3 + 1).toNatClampNeg), .int (xs (v3 + 2).toNatClampNeg), .int (xs (v3 + 3).toNatClampNeg), .int (xs (v3 + 4).toNatClampNeg), .int (xs (v3 + 5).toNatClampNeg), .int (xs (v3 + 6).toNatClampNeg), .int (xs (v3 + 7).toNatClampNeg)]) (rest := [.int r1191]) hv K_L_139 sh_118 rfl rfl rfl (Nat.le_of_ble_eq_true rfl) ⟨Nat.le_of_ble_eq_true rfl, Nat.le_of_ble_eq_true rfl⟩ ⟨hc0, hs0⟩ dL_law_1232 (fun r1232 I1232 J1232 hv => ?_)
  refine a_icmp_eq 1437 dL_law_1235 rfl (fun hc => ?_) (fun hc => ?_)
  · replace hv := hv.1 hc
    refine a_iinc 3 (v3 + 8) [(3, .int (v3 + 8)), (0, .ref b), (1, .ref (ga g 0)), (2, .ref (ga g 118))] dL_law_1437 rfl rfl (Nat.le_of_ble_eq_true rfl) rfl ?_
    refine a_goto 18 dL_law_1440 rfl ?_
    exact a_sub [1, 2, 3, 0] rfl hv
  · replace hv := hv.2 hc
    refine a_iconst (v := 0) dL_law_1238 (by decide) ?_
    exact hv.elim
def VC_law_1240 (nm : String) (g : GT) (b LL : Nat) (xs : Nat → Int32) (c0 s0 : Nat) (v3 : Int32) (I : IT) (J : JT) : Prop :=
  (vp_in (v3 + 1) LL ∧ (vp_in (v3 + 2) LL ∧ (vp_in (v3 + 3) LL ∧ (vp_in (v3 + 4) LL ∧ (vp_in (v3 + 5) LL ∧ (vp_in (v3 + 6) LL ∧ (vp_in (v3 + 7) LL ∧ (SemI g 40 M_X7_kinds [.ref (ga g 0), .int (xs (v3 + 1).toNatClampNeg), .int (xs (v3 + 2).toNatClampNeg), .int (xs (v3 + 3).toNatClampNeg), .int (xs (v3 + 4).toNatClampNeg), .int (xs (v3 + 5).toNatClampNeg), .int (xs (v3 + 6).toNatClampNeg), .int (xs (v3 + 7).toNatClampNeg)] I J (fun r1278 I1278 J1278 => (vp_in (v3 + 1) LL ∧ (vp_in (v3 + 2) LL ∧ (vp_in (v3 + 3) LL ∧ (vp_in (v3 + 4) LL ∧ (vp_in (v3 + 5) LL ∧ (vp_in (v3 + 6) LL ∧ (vp_in (v3 + 7) LL ∧ (SemI g 40 M_X8_kinds [.ref (ga g 118), .int (xs (v3 + 1).toNatClampNeg), .int (xs (v3 + 2).toNatClampNeg), .int (xs (v3 + 3).toNatClampNeg), .int (xs (v3 + 4).toNatClampNeg), .int (xs (v3 + 5).toNatClampNeg), .int (xs (v3 + 6).toNatClampNeg), .int (xs (v3 + 7).toNatClampNeg)] I1278 J1278 (fun r1319 I1319 J1319 => ((r1278 = r1319 → (Lp_law_18 nm g b LL xs c0 s0 (v3 + 8) I1319 J1319)) ∧ (¬ r1278 = r1319 → False))))))))))))))))))))
set_option maxRecDepth 4000 in
theorem w_law_1240 {nm : String} {g : GT} {b LL : Nat} {xs : Nat → Int32} {c0 s0 : Nat} {v3 : Int32} {I : IT} {J : JT} (hc0 : c0 ≤ 600000) (hs0 : s0 ≤ 7302250) (hv : VC_law_1240 nm g b LL xs c0 s0 v3 I J) : Lp_law_1240 nm g b LL xs c0 s0 v3 I J := by
  unfold VC_law_1240 at hv
  unfold Lp_law_1240
  refine a_aload_n 1 dL_law_1240 rfl rfl ?_
  refine a_aload_n 0 dL_law_1241 rfl rfl ?_
  refine a_iload_n 3 dL_law_1242 rfl rfl ?_
  refine a_iconst (v := 1) dL_law_1243 (by decide) ?_
  refine a_iadd dL_law_1244 ?_
  refine a_sld hv.1 dL_law_1245 ?_
  replace hv := hv.2
  refine a_aload_n 0 dL_law_1246 rfl rfl ?_
  refine a_iload_n 3 dL_law_1247 rfl rfl ?_
  refine a_iconst (v := 2) dL_law_1248 (by decide) ?_
  refine a_iadd dL_law_1249 ?_
  refine a_sld hv.1 dL_law_1250 ?_
  replace hv := hv.2
  refine a_aload_n 0 dL_law_1251 rfl rfl ?_
  refine a_iload_n 3 dL_law_1252 rfl rfl ?_
  refine a_iconst (v := 3) dL_law_1253 (by decide) ?_
  refine a_iadd dL_law_1254 ?_
  refine a_sld hv.1 dL_law_1255 ?_
  replace hv := hv.2
  refine a_aload_n 0 dL_law_1256 rfl rfl ?_
  refine a_iload_n 3 dL_law_1257 rfl rfl ?_
  refine a_iconst (v := 4) dL_law_1258 (by decide) ?_
  refine a_iadd dL_law_1259 ?_
  refine a_sld hv.1 dL_law_1260 ?_
  replace hv := hv.2
  refine a_aload_n 0 dL_law_1261 rfl rfl ?_
  refine a_iload_n 3 dL_law_1262 rfl rfl ?_
  refine a_iconst (v := 5) dL_law_1263 (by decide) ?_
  refine a_iadd dL_law_1264 ?_
  refine a_sld hv.1 dL_law_1265 ?_
  replace hv := hv.2
  refine a_aload_n 0 dL_law_1266 rfl rfl ?_
  refine a_iload_n 3 dL_law_1267 rfl rfl ?_
  refine a_bipush (v := 6) dL_law_1268 (by decide) ?_
  refine a_iadd dL_law_1270 ?_
  refine a_sld hv.1 dL_law_1271 ?_
  replace hv := hv.2
  refine a_aload_n 0 dL_law_1272 rfl rfl ?_
  refine a_iload_n 3 dL_law_1273 rfl rfl ?_
  refine a_bipush (v := 7) dL_law_1274 (by decide) ?_
  refine a_iadd dL_law_1276 ?_
  refine a_sld hv.1 dL_law_1277 ?_
  replace hv := hv.2
  refine c_VI (As := [.int (xs (v3 + 1).toNatClampNeg), .int (xs (v3 + 2).toNatClampNeg), .int (xs (v3 + 3).toNatClampNeg), .int (xs (v3 + 4).toNatClampNeg), .int (xs (v3 + 5).toNatClampNeg), .int (xs (v3 + 6).toNatClampNeg), .int (xs (v3 + 7).toNatClampNeg)]) (rest := []) hv K_L_140 sh_0 rfl rfl rfl (Nat.le_of_ble_eq_true rfl) ⟨Nat.le_of_ble_eq_true rfl, Nat.le_of_ble_eq_true rfl⟩ ⟨hc0, hs0⟩ dL_law_1278 (fun r1278 I1278 J1278 hv => ?_)
  refine a_aload_n 2 dL_law_1281 rfl rfl ?_
  refine a_aload_n 0 dL_law_1282 rfl rfl ?_
  refine a_iload_n 3 dL_law_1283 rfl rfl ?_
  refine a_iconst (v := 1) dL_law_1284 (by decide) ?_
  refine a_iadd dL_law_1285 ?_
  refine a_sld hv.1 dL_law_1286 ?_
  replace hv := hv.2
  refine a_aload_n 0 dL_law_1287 rfl rfl ?_
  refine a_iload_n 3 dL_law_1288 rfl rfl ?_
  refine a_iconst (v := 2) dL_law_1289 (by decide) ?_
  refine a_iadd dL_law_1290 ?_
  refine a_sld hv.1 dL_law_1291 ?_
  replace hv := hv.2
  refine a_aload_n 0 dL_law_1292 rfl rfl ?_
  refine a_iload_n 3 dL_law_1293 rfl rfl ?_
  refine a_iconst (v := 3) dL_law_1294 (by decide) ?_
  refine a_iadd dL_law_1295 ?_
  refine a_sld hv.1 dL_law_1296 ?_
  replace hv := hv.2
  refine a_aload_n 0 dL_law_1297 rfl rfl ?_
  refine a_iload_n 3 dL_law_1298 rfl rfl ?_
  refine a_iconst (v := 4) dL_law_1299 (by decide) ?_
  refine a_iadd dL_law_1300 ?_
  refine a_sld hv.1 dL_law_1301 ?_
  replace hv := hv.2
  refine a_aload_n 0 dL_law_1302 rfl rfl ?_
  refine a_iload_n 3 dL_law_1303 rfl rfl ?_
  refine a_iconst (v := 5) dL_law_1304 (by decide) ?_
  refine a_iadd dL_law_1305 ?_
  refine a_sld hv.1 dL_law_1306 ?_
  replace hv := hv.2
  refine a_aload_n 0 dL_law_1307 rfl rfl ?_
  refine a_iload_n 3 dL_law_1308 rfl rfl ?_
  refine a_bipush (v := 6) dL_law_1309 (by decide) ?_
  refine a_iadd dL_law_1311 ?_
  refine a_sld hv.1 dL_law_1312 ?_
  replace hv := hv.2
  refine a_aload_n 0 dL_law_1313 rfl rfl ?_
  refine a_iload_n 3 dL_law_1314 rfl rfl ?_
  refine a_bipush (v := 7) dL_law_1315 (by decide) ?_
  refine a_iadd dL_law_1317 ?_
  refine a_sld hv.1 dL_law_1318 ?_
  replace hv := hv.2
  refine c_VI (As := [.int (xs (v3 + 1).toNatClampNeg), .int (xs (v3 + 2).toNatClampNeg), .int (xs (v3 + 3).toNatClampNeg), .int (xs (v3 + 4).toNatClampNeg), .int (xs (v3 + 5).toNatClampNeg), .int (xs (v3 + 6).toNatClampNeg), .int (xs (v3 + 7).toNatClampNeg)]) (rest := [.int r1278]) hv K_L_143 sh_118 rfl rfl rfl (Nat.le_of_ble_eq_true rfl) ⟨Nat.le_of_ble_eq_true rfl, Nat.le_of_ble_eq_true rfl⟩ ⟨hc0, hs0⟩ dL_law_1319 (fun r1319 I1319 J1319 hv => ?_)
  refine a_icmp_eq 1437 dL_law_1322 rfl (fun hc => ?_) (fun hc => ?_)
  · replace hv := hv.1 hc
    refine a_iinc 3 (v3 + 8) [(3, .int (v3 + 8)), (0, .ref b), (1, .ref (ga g 0)), (2, .ref (ga g 118))] dL_law_1437 rfl rfl (Nat.le_of_ble_eq_true rfl) rfl ?_
    refine a_goto 18 dL_law_1440 rfl ?_
    exact a_sub [1, 2, 3, 0] rfl hv
  · replace hv := hv.2 hc
    refine a_iconst (v := 0) dL_law_1325 (by decide) ?_
    exact hv.elim
def VC_law_1327 (nm : String) (g : GT) (b LL : Nat) (xs : Nat → Int32) (c0 s0 : Nat) (v3 : Int32) (I : IT) (J : JT) : Prop :=
  (vp_in (v3 + 1) LL ∧ (vp_in (v3 + 2) LL ∧ (vp_in (v3 + 3) LL ∧ (vp_in (v3 + 4) LL ∧ (vp_in (v3 + 5) LL ∧ (vp_in (v3 + 6) LL ∧ (vp_in (v3 + 7) LL ∧ (SemI g 40 M_X7_fog [.ref (ga g 0), .int (xs (v3 + 1).toNatClampNeg), .int (xs (v3 + 2).toNatClampNeg), .int (xs (v3 + 3).toNatClampNeg), .int (xs (v3 + 4).toNatClampNeg), .int (xs (v3 + 5).toNatClampNeg), .int (xs (v3 + 6).toNatClampNeg), .int (xs (v3 + 7).toNatClampNeg)] I J (fun r1365 I1365 J1365 => (vp_in (v3 + 1) LL ∧ (vp_in (v3 + 2) LL ∧ (vp_in (v3 + 3) LL ∧ (vp_in (v3 + 4) LL ∧ (vp_in (v3 + 5) LL ∧ (vp_in (v3 + 6) LL ∧ (vp_in (v3 + 7) LL ∧ (SemI g 40 M_X8_fog [.ref (ga g 118), .int (xs (v3 + 1).toNatClampNeg), .int (xs (v3 + 2).toNatClampNeg), .int (xs (v3 + 3).toNatClampNeg), .int (xs (v3 + 4).toNatClampNeg), .int (xs (v3 + 5).toNatClampNeg), .int (xs (v3 + 6).toNatClampNeg), .int (xs (v3 + 7).toNatClampNeg)] I1365 J1365 (fun r1406 I1406 J1406 => ((r1365 = r1406 → (Lp_law_18 nm g b LL xs c0 s0 (v3 + 8) I1406 J1406)) ∧ (¬ r1365 = r1406 → False))))))))))))))))))))
set_option maxRecDepth 4000 in
theorem w_law_1327 {nm : String} {g : GT} {b LL : Nat} {xs : Nat → Int32} {c0 s0 : Nat} {v3 : Int32} {I : IT} {J : JT} (hc0 : c0 ≤ 600000) (hs0 : s0 ≤ 7302250) (hv : VC_law_1327 nm g b LL xs c0 s0 v3 I J) : Lp_law_1327 nm g b LL xs c0 s0 v3 I J := by
  unfold VC_law_1327 at hv
  unfold Lp_law_1327
  refine a_aload_n 1 dL_law_1327 rfl rfl ?_
  refine a_aload_n 0 dL_law_1328 rfl rfl ?_
  refine a_iload_n 3 dL_law_1329 rfl rfl ?_
  refine a_iconst (v := 1) dL_law_1330 (by decide) ?_
  refine a_iadd dL_law_1331 ?_
  refine a_sld hv.1 dL_law_1332 ?_
  replace hv := hv.2
  refine a_aload_n 0 dL_law_1333 rfl rfl ?_
  refine a_iload_n 3 dL_law_1334 rfl rfl ?_
  refine a_iconst (v := 2) dL_law_1335 (by decide) ?_
  refine a_iadd dL_law_1336 ?_
  refine a_sld hv.1 dL_law_1337 ?_
  replace hv := hv.2
  refine a_aload_n 0 dL_law_1338 rfl rfl ?_
  refine a_iload_n 3 dL_law_1339 rfl rfl ?_
  refine a_iconst (v := 3) dL_law_1340 (by decide) ?_
  refine a_iadd dL_law_1341 ?_
  refine a_sld hv.1 dL_law_1342 ?_
  replace hv := hv.2
  refine a_aload_n 0 dL_law_1343 rfl rfl ?_
  refine a_iload_n 3 dL_law_1344 rfl rfl ?_
  refine a_iconst (v := 4) dL_law_1345 (by decide) ?_
  refine a_iadd dL_law_1346 ?_
  refine a_sld hv.1 dL_law_1347 ?_
  replace hv := hv.2
  refine a_aload_n 0 dL_law_1348 rfl rfl ?_
  refine a_iload_n 3 dL_law_1349 rfl rfl ?_
  refine a_iconst (v := 5) dL_law_1350 (by decide) ?_
  refine a_iadd dL_law_1351 ?_
  refine a_sld hv.1 dL_law_1352 ?_
  replace hv := hv.2
  refine a_aload_n 0 dL_law_1353 rfl rfl ?_
  refine a_iload_n 3 dL_law_1354 rfl rfl ?_
  refine a_bipush (v := 6) dL_law_1355 (by decide) ?_
  refine a_iadd dL_law_1357 ?_
  refine a_sld hv.1 dL_law_1358 ?_
  replace hv := hv.2
  refine a_aload_n 0 dL_law_1359 rfl rfl ?_
  refine a_iload_n 3 dL_law_1360 rfl rfl ?_
  refine a_bipush (v := 7) dL_law_1361 (by decide) ?_
  refine a_iadd dL_law_1363 ?_
  refine a_sld hv.1 dL_law_1364 ?_
  replace hv := hv.2
  refine c_VI (As := [.int (xs (v3 + 1).toNatClampNeg), .int (xs (v3 + 2).toNatClampNeg), .int (xs (v3 + 3).toNatClampNeg), .int (xs (v3 + 4).toNatClampNeg), .int (xs (v3 + 5).toNatClampNeg), .int (xs (v3 + 6).toNatClampNeg), .int (xs (v3 + 7).toNatClampNeg)]) (rest := []) hv K_L_144 sh_0 rfl rfl rfl (Nat.le_of_ble_eq_true rfl) ⟨Nat.le_of_ble_eq_true rfl, Nat.le_of_ble_eq_true rfl⟩ ⟨hc0, hs0⟩ dL_law_1365 (fun r1365 I1365 J1365 hv => ?_)
  refine a_aload_n 2 dL_law_1368 rfl rfl ?_
  refine a_aload_n 0 dL_law_1369 rfl rfl ?_
  refine a_iload_n 3 dL_law_1370 rfl rfl ?_
  refine a_iconst (v := 1) dL_law_1371 (by decide) ?_
  refine a_iadd dL_law_1372 ?_
  refine a_sld hv.1 dL_law_1373 ?_
  replace hv := hv.2
  refine a_aload_n 0 dL_law_1374 rfl rfl ?_
  refine a_iload_n 3 dL_law_1375 rfl rfl ?_
  refine a_iconst (v := 2) dL_law_1376 (by decide) ?_
  refine a_iadd dL_law_1377 ?_
  refine a_sld hv.1 dL_law_1378 ?_
  replace hv := hv.2
  refine a_aload_n 0 dL_law_1379 rfl rfl ?_
  refine a_iload_n 3 dL_law_1380 rfl rfl ?_
  refine a_iconst (v := 3) dL_law_1381 (by decide) ?_
  refine a_iadd dL_law_1382 ?_
  refine a_sld hv.1 dL_law_1383 ?_
  replace hv := hv.2
  refine a_aload_n 0 dL_law_1384 rfl rfl ?_
  refine a_iload_n 3 dL_law_1385 rfl rfl ?_
  refine a_iconst (v := 4) dL_law_1386 (by decide) ?_
  refine a_iadd dL_law_1387 ?_
  refine a_sld hv.1 dL_law_1388 ?_
  replace hv := hv.2
  refine a_aload_n 0 dL_law_1389 rfl rfl ?_
  refine a_iload_n 3 dL_law_1390 rfl rfl ?_
  refine a_iconst (v := 5) dL_law_1391 (by decide) ?_
  refine a_iadd dL_law_1392 ?_
  refine a_sld hv.1 dL_law_1393 ?_
  replace hv := hv.2
  refine a_aload_n 0 dL_law_1394 rfl rfl ?_
  refine a_iload_n 3 dL_law_1395 rfl rfl ?_
  refine a_bipush (v := 6) dL_law_1396 (by decide) ?_
  refine a_iadd dL_law_1398 ?_
  refine a_sld hv.1 dL_law_1399 ?_
  replace hv := hv.2
  refine a_aload_n 0 dL_law_1400 rfl rfl ?_
  refine a_iload_n 3 dL_law_1401 rfl rfl ?_
  refine a_bipush (v := 7) dL_law_1402 (by decide) ?_
  refine a_iadd dL_law_1404 ?_
  refine a_sld hv.1 dL_law_1405 ?_
  replace hv := hv.2
  refine c_VI (As := [.int (xs (v3 + 1).toNatClampNeg), .int (xs (v3 + 2).toNatClampNeg), .int (xs (v3 + 3).toNatClampNeg), .int (xs (v3 + 4).toNatClampNeg), .int (xs (v3 + 5).toNatClampNeg), .int (xs (v3 + 6).toNatClampNeg), .int (xs (v3 + 7).toNatClampNeg)]) (rest := [.int r1365]) hv K_L_147 sh_118 rfl rfl rfl (Nat.le_of_ble_eq_true rfl) ⟨Nat.le_of_ble_eq_true rfl, Nat.le_of_ble_eq_true rfl⟩ ⟨hc0, hs0⟩ dL_law_1406 (fun r1406 I1406 J1406 hv => ?_)
  refine a_icmp_eq 1437 dL_law_1409 rfl (fun hc => ?_) (fun hc => ?_)
  · replace hv := hv.1 hc
    refine a_iinc 3 (v3 + 8) [(3, .int (v3 + 8)), (0, .ref b), (1, .ref (ga g 0)), (2, .ref (ga g 118))] dL_law_1437 rfl rfl (Nat.le_of_ble_eq_true rfl) rfl ?_
    refine a_goto 18 dL_law_1440 rfl ?_
    exact a_sub [1, 2, 3, 0] rfl hv
  · replace hv := hv.2 hc
    refine a_iconst (v := 0) dL_law_1412 (by decide) ?_
    exact hv.elim
def VC_law_1414 (nm : String) (g : GT) (b LL : Nat) (xs : Nat → Int32) (c0 s0 : Nat) (v3 : Int32) (I : IT) (J : JT) : Prop :=
  (vp_in (v3 + 1) LL ∧ (SemI g 40 M_X7_count [.ref (ga g 0), .int (xs (v3 + 1).toNatClampNeg)] I J (fun r1420 I1420 J1420 => (vp_in (v3 + 1) LL ∧ (SemI g 40 M_X8_count [.ref (ga g 118), .int (xs (v3 + 1).toNatClampNeg)] I1420 J1420 (fun r1429 I1429 J1429 => ((r1420 = r1429 → (Lp_law_18 nm g b LL xs c0 s0 (v3 + 8) I1429 J1429)) ∧ (¬ r1420 = r1429 → False))))))))
set_option maxRecDepth 4000 in
theorem w_law_1414 {nm : String} {g : GT} {b LL : Nat} {xs : Nat → Int32} {c0 s0 : Nat} {v3 : Int32} {I : IT} {J : JT} (hc0 : c0 ≤ 600000) (hs0 : s0 ≤ 7302250) (hv : VC_law_1414 nm g b LL xs c0 s0 v3 I J) : Lp_law_1414 nm g b LL xs c0 s0 v3 I J := by
  unfold VC_law_1414 at hv
  unfold Lp_law_1414
  refine a_aload_n 1 dL_law_1414 rfl rfl ?_
  refine a_aload_n 0 dL_law_1415 rfl rfl ?_
  refine a_iload_n 3 dL_law_1416 rfl rfl ?_
  refine a_iconst (v := 1) dL_law_1417 (by decide) ?_
  refine a_iadd dL_law_1418 ?_
  refine a_sld hv.1 dL_law_1419 ?_
  replace hv := hv.2
  refine c_VI (As := [.int (xs (v3 + 1).toNatClampNeg)]) (rest := []) hv K_L_148 sh_0 rfl rfl rfl (Nat.le_of_ble_eq_true rfl) ⟨Nat.le_of_ble_eq_true rfl, Nat.le_of_ble_eq_true rfl⟩ ⟨hc0, hs0⟩ dL_law_1420 (fun r1420 I1420 J1420 hv => ?_)
  refine a_aload_n 2 dL_law_1423 rfl rfl ?_
  refine a_aload_n 0 dL_law_1424 rfl rfl ?_
  refine a_iload_n 3 dL_law_1425 rfl rfl ?_
  refine a_iconst (v := 1) dL_law_1426 (by decide) ?_
  refine a_iadd dL_law_1427 ?_
  refine a_sld hv.1 dL_law_1428 ?_
  replace hv := hv.2
  refine c_VI (As := [.int (xs (v3 + 1).toNatClampNeg)]) (rest := [.int r1420]) hv K_L_151 sh_118 rfl rfl rfl (Nat.le_of_ble_eq_true rfl) ⟨Nat.le_of_ble_eq_true rfl, Nat.le_of_ble_eq_true rfl⟩ ⟨hc0, hs0⟩ dL_law_1429 (fun r1429 I1429 J1429 hv => ?_)
  refine a_icmp_eq 1437 dL_law_1432 rfl (fun hc => ?_) (fun hc => ?_)
  · replace hv := hv.1 hc
    refine a_iinc 3 (v3 + 8) [(3, .int (v3 + 8)), (0, .ref b), (1, .ref (ga g 0)), (2, .ref (ga g 118))] dL_law_1437 rfl rfl (Nat.le_of_ble_eq_true rfl) rfl ?_
    refine a_goto 18 dL_law_1440 rfl ?_
    exact a_sub [1, 2, 3, 0] rfl hv
  · replace hv := hv.2 hc
    refine a_iconst (v := 0) dL_law_1435 (by decide) ?_
    exact hv.elim
