-- ===== rows =====
def mt (G : Nat → Int64) (k : Nat) (v : Vy) : Bool := decide ((nI v.2.1).toInt64 = G k)
def cR (F : NF) (t : Nat) (G : Nat → Int64) : Nat → Nat → Vy → Nat
  | 0, _, _ => 1
  | m + 1, k, v => accN (fun w T => if mt G k (hearV F v t w) then T + cR F t G m (k + 1) (hearV F v t w) else T) 0 3
def orE : Option Nat → Option Nat → Option Nat
  | some x, _ => some x
  | none, y => y
def fR (F : NF) (t : Nat) (G : Nat → Int64) : Nat → Nat → Nat → Vy → Option Nat
  | 0, _, num, _ => some num
  | m + 1, k, num, v => orE (if mt G k (hearV F v t 0) then fR F t G m (k + 1) (3 * num + 0) (hearV F v t 0) else none) (orE (if mt G k (hearV F v t 1) then fR F t G m (k + 1) (3 * num + 1) (hearV F v t 1) else none) (if mt G k (hearV F v t 2) then fR F t G m (k + 1) (3 * num + 2) (hearV F v t 2) else none))
def chk (F : NF) (t : Nat) (G : Nat → Int64) : Nat → Nat → Vy → Nat → Bool
  | 0, _, _, _ => true
  | m + 1, k, v, c => mt G k (hearV F v t (c / 3 ^ m % 3)) && chk F t G m (k + 1) (hearV F v t (c / 3 ^ m % 3)) c
def cntB (p : Nat → Bool) : Nat → Nat := accN (fun c n => if p c then n + 1 else n) 0
def fstB (p : Nat → Bool) : Nat → Option Nat
  | 0 => none
  | c + 1 => orE (fstB p c) (if p c then some c else none)
theorem cntB_s {p : Nat → Bool} {c : Nat} : cntB p (c + 1) = if p c then cntB p c + 1 else cntB p c := rfl
theorem cntB_add {p : Nat → Bool} {a : Nat} : ∀ b, cntB p (a + b) = cntB p a + cntB (fun c => p (a + c)) b := by
  intro b
  induction b with
  | zero => rfl
  | succ b ih =>
    rw [← Nat.add_assoc, cntB_s, cntB_s, ih]
    split
    · rw [Nat.add_assoc]
    · rfl
theorem cntB_cg {p q : Nat → Bool} : ∀ N, (∀ c, c < N → p c = q c) → cntB p N = cntB q N := by
  intro N
  induction N with
  | zero => intro _; rfl
  | succ N ih =>
    intro h
    rw [cntB_s, cntB_s, ih (fun c hc => h c (by omega)), h N (by omega)]
theorem cntB_n {p : Nat → Bool} : ∀ N, (∀ c, c < N → p c = false) → cntB p N = 0 := by
  intro N
  induction N with
  | zero => intro _; rfl
  | succ N ih => intro h; rw [cntB_s, h N (by omega), ih (fun c hc => h c (by omega))]; rfl
theorem fstB_s {p : Nat → Bool} {c : Nat} : fstB p (c + 1) = orE (fstB p c) (if p c then some c else none) := rfl
theorem fstB_cg {p q : Nat → Bool} : ∀ N, (∀ c, c < N → p c = q c) → fstB p N = fstB q N := by
  intro N
  induction N with
  | zero => intro _; rfl
  | succ N ih =>
    intro h
    rw [fstB_s, fstB_s, ih (fun c hc => h c (by omega)), h N (by omega)]
theorem fstB_n {p : Nat → Bool} : ∀ N, (∀ c, c < N → p c = false) → fstB p N = none := by
  intro N
  induction N with
  | zero => intro _; rfl
  | succ N ih => intro h; rw [fstB_s, h N (by omega), ih (fun c hc => h c (by omega))]; rfl
theorem fstB_add {p : Nat → Bool} {a : Nat} : ∀ b, fstB p (a + b) = orE (fstB p a) ((fstB (fun c => p (a + c)) b).map (fun c => a + c)) := by
  intro b
  induction b with
  | zero =>
    show fstB p a = orE (fstB p a) none
    cases fstB p a <;> rfl
  | succ b ih =>
    rw [← Nat.add_assoc, fstB_s, fstB_s, ih]
    cases fstB p a with
    | some x => rfl
    | none =>
      cases fstB (fun c => p (a + c)) b with
      | some x => rfl
      | none =>
        show (if p (a + b) then some (a + b) else none) = Option.map (fun c => a + c) (if p (a + b) then some b else none)
        cases p (a + b) <;> rfl
theorem fstB_c {p : Nat → Bool} : ∀ N, (cntB p N = 0 ↔ fstB p N = none) := by
  intro N
  induction N with
  | zero => exact ⟨fun _ => rfl, fun _ => rfl⟩
  | succ N ih =>
    rw [cntB_s, fstB_s]
    cases hp : p N with
    | false =>
      show cntB p N = 0 ↔ orE (fstB p N) none = none
      rw [ih]
      cases fstB p N <;> exact Iff.rfl
    | true =>
      show cntB p N + 1 = 0 ↔ orE (fstB p N) (some N) = none
      cases fstB p N with
      | none => exact ⟨fun z => absurd z (by omega), fun z => (by have z : some N = none := z; cases z)⟩
      | some x => exact ⟨fun z => absurd z (by omega), fun z => (by have z : some x = none := z; cases z)⟩
theorem fstB_lt {p : Nat → Bool} : ∀ N x, fstB p N = some x → x < N := by
  intro N
  induction N with
  | zero => intro x h; cases h
  | succ N ih =>
    intro x h
    rw [fstB_s] at h
    cases hf : fstB p N with
    | some y => rw [hf] at h; cases h; have := ih _ hf; omega
    | none =>
      rw [hf] at h
      cases hp : p N with
      | true => rw [hp] at h; cases h; omega
      | false => rw [hp] at h; cases h
theorem p3_pos (m : Nat) : 0 < 3 ^ m := Nat.pow_pos (by omega)
theorem p3_s (m : Nat) : 3 ^ (m + 1) = 3 ^ m + (3 ^ m + 3 ^ m) := by rw [Nat.pow_succ]; omega
theorem dig_hi {m c w : Nat} : (w * 3 ^ (m + 1) + c) / 3 ^ m % 3 = c / 3 ^ m % 3 := by
  rw [show w * 3 ^ (m + 1) + c = c + 3 ^ m * (w * 3) from by rw [Nat.pow_succ, Nat.add_comm, Nat.mul_left_comm], Nat.add_mul_div_left _ _ (p3_pos m)]
  omega
theorem dig_at {m c w : Nat} (hc : c < 3 ^ m) (hw : w < 3) : (w * 3 ^ m + c) / 3 ^ m % 3 = w := by
  rw [show w * 3 ^ m + c = c + 3 ^ m * w from by rw [Nat.add_comm, Nat.mul_comm], Nat.add_mul_div_left _ _ (p3_pos m), Nat.div_eq_of_lt hc]
  omega
theorem chk_hi {F : NF} {t : Nat} {G : Nat → Int64} : ∀ m k v c w, chk F t G m k v (w * 3 ^ m + c) = chk F t G m k v c := by
  intro m
  induction m with
  | zero => intro k v c w; rfl
  | succ m ih =>
    intro k v c w
    show (mt G k (hearV F v t ((w * 3 ^ (m + 1) + c) / 3 ^ m % 3)) && chk F t G m (k + 1) (hearV F v t ((w * 3 ^ (m + 1) + c) / 3 ^ m % 3)) (w * 3 ^ (m + 1) + c)) = (mt G k (hearV F v t (c / 3 ^ m % 3)) && chk F t G m (k + 1) (hearV F v t (c / 3 ^ m % 3)) c)
    rw [dig_hi, show w * 3 ^ (m + 1) + c = (w * 3) * 3 ^ m + c from by rw [Nat.pow_succ, Nat.mul_assoc, Nat.mul_comm 3], ih]
theorem chk_b {F : NF} {t : Nat} {G : Nat → Int64} {m k w c : Nat} {v : Vy} (hc : c < 3 ^ m) (hw : w < 3) : chk F t G (m + 1) k v (w * 3 ^ m + c) = (mt G k (hearV F v t w) && chk F t G m (k + 1) (hearV F v t w) c) := by
  show (mt G k (hearV F v t ((w * 3 ^ m + c) / 3 ^ m % 3)) && chk F t G m (k + 1) (hearV F v t ((w * 3 ^ m + c) / 3 ^ m % 3)) (w * 3 ^ m + c)) = _
  rw [dig_at hc hw, chk_hi]
theorem cR_eq {F : NF} {t : Nat} {G : Nat → Int64} : ∀ m k v, cR F t G m k v = cntB (chk F t G m k v) (3 ^ m) := by
  intro m
  induction m with
  | zero => intro k v; rfl
  | succ m ih =>
    intro k v
    have blk : ∀ w, w < 3 → cntB (fun c => chk F t G (m + 1) k v (w * 3 ^ m + c)) (3 ^ m) = if mt G k (hearV F v t w) then cR F t G m (k + 1) (hearV F v t w) else 0 := by
      intro w hw
      cases hm : mt G k (hearV F v t w) with
      | true =>
        rw [if_pos rfl, ih]
        exact cntB_cg _ (fun c hc => by rw [chk_b hc hw, hm, Bool.true_and])
      | false => exact cntB_n _ (fun c hc => by rw [chk_b hc hw, hm, Bool.false_and])
    have b0 := blk 0 (by omega)
    have b1 := blk 1 (by omega)
    have b2 := blk 2 (by omega)
    rw [p3_s, cntB_add, cntB_add]
    rw [show (fun c => chk F t G (m + 1) k v (0 * 3 ^ m + c)) = chk F t G (m + 1) k v from by funext c; rw [Nat.zero_mul, Nat.zero_add]] at b0
    rw [show (fun c => chk F t G (m + 1) k v (1 * 3 ^ m + c)) = (fun c => chk F t G (m + 1) k v (3 ^ m + c)) from by funext c; rw [Nat.one_mul]] at b1
    rw [show (fun c => chk F t G (m + 1) k v (2 * 3 ^ m + c)) = (fun c => chk F t G (m + 1) k v (3 ^ m + (3 ^ m + c))) from by funext c; congr 1; omega] at b2
    rw [b0, b1, b2]
    show (if mt G k (hearV F v t 2) then (if mt G k (hearV F v t 1) then (if mt G k (hearV F v t 0) then 0 + cR F t G m (k + 1) (hearV F v t 0) else 0) + cR F t G m (k + 1) (hearV F v t 1) else (if mt G k (hearV F v t 0) then 0 + cR F t G m (k + 1) (hearV F v t 0) else 0)) + cR F t G m (k + 1) (hearV F v t 2) else (if mt G k (hearV F v t 1) then (if mt G k (hearV F v t 0) then 0 + cR F t G m (k + 1) (hearV F v t 0) else 0) + cR F t G m (k + 1) (hearV F v t 1) else (if mt G k (hearV F v t 0) then 0 + cR F t G m (k + 1) (hearV F v t 0) else 0))) = _
    (repeat' split) <;> omega
theorem fR_eq {F : NF} {t : Nat} {G : Nat → Int64} : ∀ m k num v, fR F t G m k num v = (fstB (chk F t G m k v) (3 ^ m)).map (fun c => num * 3 ^ m + c) := by
  intro m
  induction m with
  | zero =>
    intro k num v
    show some num = some (num * 1 + 0)
    congr 1; omega
  | succ m ih =>
    intro k num v
    have blk : ∀ w, w < 3 → fstB (fun c => chk F t G (m + 1) k v (w * 3 ^ m + c)) (3 ^ m) = if mt G k (hearV F v t w) then fstB (chk F t G m (k + 1) (hearV F v t w)) (3 ^ m) else none := by
      intro w hw
      cases hm : mt G k (hearV F v t w) with
      | true =>
        rw [if_pos rfl]
        exact fstB_cg _ (fun c hc => by rw [chk_b hc hw, hm, Bool.true_and])
      | false => exact fstB_n _ (fun c hc => by rw [chk_b hc hw, hm, Bool.false_and])
    have b0 := blk 0 (by omega)
    have b1 := blk 1 (by omega)
    have b2 := blk 2 (by omega)
    rw [show (fun c => chk F t G (m + 1) k v (0 * 3 ^ m + c)) = chk F t G (m + 1) k v from by funext c; rw [Nat.zero_mul, Nat.zero_add]] at b0
    rw [show (fun c => chk F t G (m + 1) k v (1 * 3 ^ m + c)) = (fun c => chk F t G (m + 1) k v (3 ^ m + c)) from by funext c; rw [Nat.one_mul]] at b1
    rw [show (fun c => chk F t G (m + 1) k v (2 * 3 ^ m + c)) = (fun c => chk F t G (m + 1) k v (3 ^ m + (3 ^ m + c))) from by funext c; congr 1; omega] at b2
    rw [p3_s, fstB_add, fstB_add, b0, b1, b2]
    show orE (if mt G k (hearV F v t 0) then fR F t G m (k + 1) (3 * num + 0) (hearV F v t 0) else none) (orE (if mt G k (hearV F v t 1) then fR F t G m (k + 1) (3 * num + 1) (hearV F v t 1) else none) (if mt G k (hearV F v t 2) then fR F t G m (k + 1) (3 * num + 2) (hearV F v t 2) else none)) = _
    rw [ih, ih, ih]
    have e : ∀ w c, (3 * num + w) * 3 ^ m + c = num * (3 ^ m + (3 ^ m + 3 ^ m)) + (w * 3 ^ m + c) := by
      intro w c
      rw [Nat.add_mul, Nat.mul_add, Nat.mul_add, Nat.mul_assoc]
      omega
    have m0 : ∀ (b : Bool) (x : Option Nat), (if b then x.map (fun c => (3 * num + 0) * 3 ^ m + c) else none) = (if b then x else none).map (fun c => num * (3 ^ m + (3 ^ m + 3 ^ m)) + c) := by
      intro b x
      cases b with
      | false => rfl
      | true =>
        cases x with
        | none => rfl
        | some c => show some ((3 * num + 0) * 3 ^ m + c) = some (num * (3 ^ m + (3 ^ m + 3 ^ m)) + c); rw [e, Nat.zero_mul, Nat.zero_add]
    have m1 : ∀ (b : Bool) (x : Option Nat), (if b then x.map (fun c => (3 * num + 1) * 3 ^ m + c) else none) = ((if b then x else none).map (fun c => 3 ^ m + c)).map (fun c => num * (3 ^ m + (3 ^ m + 3 ^ m)) + c) := by
      intro b x
      cases b with
      | false => rfl
      | true =>
        cases x with
        | none => rfl
        | some c => show some ((3 * num + 1) * 3 ^ m + c) = some (num * (3 ^ m + (3 ^ m + 3 ^ m)) + (3 ^ m + c)); rw [e, Nat.one_mul]
    have m2 : ∀ (b : Bool) (x : Option Nat), (if b then x.map (fun c => (3 * num + 2) * 3 ^ m + c) else none) = (((if b then x else none).map (fun c => 3 ^ m + c)).map (fun c => 3 ^ m + c)).map (fun c => num * (3 ^ m + (3 ^ m + 3 ^ m)) + c) := by
      intro b x
      cases b with
      | false => rfl
      | true =>
        cases x with
        | none => rfl
        | some c => show some ((3 * num + 2) * 3 ^ m + c) = some (num * (3 ^ m + (3 ^ m + 3 ^ m)) + (3 ^ m + (3 ^ m + c))); rw [e]; congr 2; omega
    rw [m0, m1, m2]
    generalize (if mt G k (hearV F v t 0) then fstB (chk F t G m (k + 1) (hearV F v t 0)) (3 ^ m) else none) = y0
    generalize (if mt G k (hearV F v t 1) then fstB (chk F t G m (k + 1) (hearV F v t 1)) (3 ^ m) else none) = y1
    generalize (if mt G k (hearV F v t 2) then fstB (chk F t G m (k + 1) (hearV F v t 2)) (3 ^ m) else none) = y2
    cases y0 with
    | some _ => rfl
    | none =>
      cases y1 with
      | some _ => rfl
      | none => cases y2 <;> rfl
def oI : Option Nat → Int32
  | none => -4
  | some x => nI x
theorem fR_lt {F : NF} {t : Nat} {G : Nat → Int64} {m k num x : Nat} {v : Vy} (hn : num < 3 ^ k) (h : fR F t G m k num v = some x) : x < 3 ^ (k + m) := by
  rw [fR_eq] at h
  cases hf : fstB (chk F t G m k v) (3 ^ m) with
  | none => rw [hf] at h; cases h
  | some c =>
    rw [hf] at h
    have hc := fstB_lt _ _ hf
    have h : num * 3 ^ m + c = x := Option.some.inj h
    have : (num + 1) * 3 ^ m ≤ 3 ^ k * 3 ^ m := Nat.mul_le_mul_right _ hn
    rw [Nat.pow_add]
    rw [Nat.add_mul, Nat.one_mul] at this
    omega
theorem p3_le {n : Nat} (h : n ≤ 6) : 3 ^ n ≤ 729 := Nat.pow_le_pow_right (n := 3) (by omega) h
section RWS
variable {g : GT} {J : JT}
theorem s_X7_nextVoyage {d k : Nat} {I : IT} {v : Vy} {P : Nat → IT → JT → Prop} (hd : 2 ≤ d) (hk : k < 6) (hC : CV I (96 + 2 * k) v) (h : ∀ I', CV I' (96 + 2 * (k + 1)) v → (∀ a, a ≠ 96 + 2 * (k + 1) → a ≠ 96 + 2 * (k + 1) + 1 → I' a = I a) → P (96 + 2 * (k + 1)) I' J) : SemR g d M_X7_nextVoyage [.ref (ga g 0), .int (nI k)] I J P := by
  refine w_X7_nextVoyage (by omega) ?_
  unfold VC_X7_nextVoyage
  rw [nI_one, nI_cl (by omega), nI_cl (by omega)]
  exact ⟨vp_in_nI (by omega) (by omega), vp_in_nI (by omega) (by omega), s_X6_follow (by omega) (isV_72 (k + 1) (by omega)) (isV_72 k (by omega)) (by omega) hC h⟩
theorem s_X7_leadsTo {d k t w : Nat} {I : IT} {y : Int64} {F : NF} {v : Vy} {P : Bool → IT → JT → Prop} (hd : 4 ≤ d) (hk : k < 6) (hC : CV I (96 + 2 * k) v) (hS : SeaC I 4 F) (hW : okW F) (hv : okV F v) (ht : t < 4) (hw : w < 3) (h : ∀ I', CV I' (96 + 2 * (k + 1)) (hearV F v t w) → (∀ a, a ≠ 96 + 2 * (k + 1) → a ≠ 96 + 2 * (k + 1) + 1 → I' a = I a) → P (decide ((nI (hearV F v t w).2.1).toInt64 = y)) I' J) : SemZ g d M_X7_leadsTo [.ref (ga g 0), .int (nI k), .int (nI t), .int (nI w), .long y] I J P := by
  refine w_X7_leadsTo (by omega) ?_
  unfold VC_X7_leadsTo
  refine s_X7_nextVoyage (by omega) hk hC (fun I1 b1 b2 => ⟨isV_72 (k + 1) (by omega), ?_⟩)
  refine s_X6_hear (by omega) (isV_72 (k + 1) (by omega)) (by omega) b1 (hS.cg (b2 _ (by omega) (by omega)) (b2 _ (by omega) (by omega))) hW hv ht hw (fun I2 d1 d2 => ?_)
  have := h I2 d1 (fun a z1 z2 => by rw [d2 a z1 z2, b2 a z1 z2])
  rw [d1.2.1]
  refine ⟨fun z => ?_, fun z => ?_⟩
  · rw [decide_eq_false z] at this; exact this
  · rw [decide_eq_true z] at this; exact this
theorem s_X7_canGoDeeper {d k n : Nat} {I : IT} {P : Bool → IT → JT → Prop} (hk : k ≤ n) (hn : n ≤ 6) (h : P (decide (k < n)) I J) : SemZ g d M_X7_canGoDeeper [.ref (ga g 0), .int (nI k), .int (nI n)] I J P := by
  refine w_X7_canGoDeeper ?_
  unfold VC_X7_canGoDeeper
  rw [nI_one]
  refine ⟨fun z => absurd z (nI_pos (by omega)), fun _ => ⟨fun z => ?_, fun z => ⟨fun y => ?_, fun y => ?_⟩⟩⟩
  · have z := (nI_leI (by omega) (by omega)).mp z
    rw [decide_eq_false (by omega)] at h; exact h
  · have y := (nI_leI (a := 7) (by omega) (by omega)).mp y
    rw [decide_eq_false (by omega)] at h; exact h
  · have z : ¬ n ≤ k := fun w => z ((nI_leI (by omega) (by omega)).mpr w)
    rw [decide_eq_true (by omega)] at h; exact h
theorem s_X7_countRows {t p i n : Nat} {f : Nat → Int64} {F : NF} {P : Int32 → IT → JT → Prop} (hp : isS p) (hW : okW F) (ht : t < 4) (hn : n ≤ 6) (hi : i + n ≤ 24) (hJ : ∀ x, x < 24 → J (p + 1) x = f x) : ∀ m d k v I (P : Int32 → IT → JT → Prop), k + m = n → m + 6 ≤ d → CV I (96 + 2 * k) v → SeaC I 4 F → okV F v → (∀ I', (∀ a, (a < 96 + 2 * k + 2 ∨ 109 < a) → I' a = I a) → P (nI (cR F t (fun x => f (i + x)) m k v)) I' J) → SemI g d M_X7_countRows [.ref (ga g 0), .int (nI k), .int (nI t), .ref (ga g p), .int (nI i), .int (nI n)] I J P := by
  intro m
  induction m with
  | zero =>
    intro d k v I P hkn hd hC hS hv h
    refine w_X7_countRows hp (by omega) ?_
    unfold VC_X7_countRows
    refine s_X7_canGoDeeper (by omega) hn ⟨fun z => absurd (of_decide_eq_true z) (by omega), fun _ => h I (fun _ _ => rfl)⟩
  | succ m ih =>
    intro d k v I P hkn hd hC hS hv h
    refine w_X7_countRows hp (by omega) ?_
    unfold VC_X7_countRows
    refine s_X7_canGoDeeper (by omega) hn ⟨fun _ => ?_, fun z => absurd (of_decide_eq_false z) (by omega)⟩
    refine upTo (Q := fun w => ∀ I1, (∀ a, (a < 96 + 2 * k + 2 ∨ 109 < a) → I1 a = I a) → Lp_X7_countRows_18 g d (nI k) (nI t) p (nI i) (nI n) (nI (accN (fun w T => if mt (fun x => f (i + x)) k (hearV F v t w) then T + cR F t (fun x => f (i + x)) m (k + 1) (hearV F v t w) else T) 0 w)) (nI w) I1 J P) (N := 3) (fun I1 c1 => ?_) (fun w hw ihw I1 c1 => ?_) I (fun _ _ => rfl)
    · refine w_X7_countRows_18 hp (by omega) ?_
      unfold VC_X7_countRows_18
      exact ⟨fun _ => h I1 c1, fun z => absurd (by decide) z⟩
    · refine w_X7_countRows_18 hp (by omega) ?_
      unfold VC_X7_countRows_18
      rw [nI_add, nI_one, nI_one, nI_cl (by omega), hJ _ (by omega)]
      refine ⟨fun z => absurd ((nI_leI (a := 3) (by omega) (by omega)).mp z) (by omega), fun _ => ⟨vp_in_nI (by omega) (by omega), ?_⟩⟩
      have ihw : ∀ I1, (∀ a, (a < 96 + 2 * k + 2 ∨ 109 < a) → I1 a = I a) → Lp_X7_countRows_18 g d (nI k) (nI t) p (nI i) (nI n) (nI (if mt (fun x => f (i + x)) k (hearV F v t w) then accN (fun w T => if mt (fun x => f (i + x)) k (hearV F v t w) then T + cR F t (fun x => f (i + x)) m (k + 1) (hearV F v t w) else T) 0 w + cR F t (fun x => f (i + x)) m (k + 1) (hearV F v t w) else accN (fun w T => if mt (fun x => f (i + x)) k (hearV F v t w) then T + cR F t (fun x => f (i + x)) m (k + 1) (hearV F v t w) else T) 0 w)) (nI (w + 1)) I1 J P := ihw
      generalize accN (fun w T => if mt (fun x => f (i + x)) k (hearV F v t w) then T + cR F t (fun x => f (i + x)) m (k + 1) (hearV F v t w) else T) 0 w = T at ihw
      refine s_X7_leadsTo (by omega) (by omega) (hC.cg (c1 _ (by omega)) (c1 _ (by omega))) (hS.cg (c1 _ (by omega)) (c1 _ (by omega))) hW hv ht hw (fun I2 d1 d2 => ?_)
      have e2 : ∀ a, (a < 96 + 2 * k + 2 ∨ 109 < a) → I2 a = I a := fun a ha => by rw [d2 a (by omega) (by omega), c1 a ha]
      unfold mt at ihw
      refine ⟨fun z => ?_, fun z => ?_⟩
      · rw [z] at ihw; exact ihw I2 e2
      · rw [z] at ihw
        refine ih (d - 1) (k + 1) _ I2 _ (by omega) (by omega) d1 (hS.cg (e2 _ (by omega)) (e2 _ (by omega))) (okV_hear hv hW) (fun I3 f1 => ?_)
        rw [nI_add]
        exact ihw I3 (fun a ha => by rw [f1 a (by omega), e2 a ha])
theorem s_X7_firstRow {t p i n : Nat} {f : Nat → Int64} {F : NF} (hp : isS p) (hW : okW F) (ht : t < 4) (hn : n ≤ 6) (hi : i + n ≤ 24) (hJ : ∀ x, x < 24 → J (p + 1) x = f x) : ∀ m d k num v I (P : Int32 → IT → JT → Prop), k + m = n → m + 6 ≤ d → num < 3 ^ k → CV I (96 + 2 * k) v → SeaC I 4 F → okV F v → (∀ I', (∀ a, (a < 96 + 2 * k + 2 ∨ 109 < a) → I' a = I a) → P (oI (fR F t (fun x => f (i + x)) m k num v)) I' J) → SemI g d M_X7_firstRow [.ref (ga g 0), .int (nI k), .int (nI num), .int (nI t), .ref (ga g p), .int (nI i), .int (nI n)] I J P := by
  intro m
  induction m with
  | zero =>
    intro d k num v I P hkn hd hnum hC hS hv h
    refine w_X7_firstRow hp (by omega) ?_
    unfold VC_X7_firstRow
    refine s_X7_canGoDeeper (by omega) hn ⟨fun z => absurd (of_decide_eq_true z) (by omega), fun _ => h I (fun _ _ => rfl)⟩
  | succ m ih =>
    intro d k num v I P hkn hd hnum hC hS hv h
    refine w_X7_firstRow hp (by omega) ?_
    unfold VC_X7_firstRow
    refine s_X7_canGoDeeper (by omega) hn ⟨fun _ => ?_, fun z => absurd (of_decide_eq_false z) (by omega)⟩
    have hb : ∀ w, w < 3 → 3 * num + w < 3 ^ (k + 1) := fun w hw => by rw [Nat.pow_succ]; omega
    have h9 : 3 ^ (k + 1 + m) ≤ 729 := p3_le (by omega)
    have step : ∀ w, w < 3 → ∀ I1, (∀ a, (a < 96 + 2 * k + 2 ∨ 109 < a) → I1 a = I a) → (∀ I2 x, (∀ a, (a < 96 + 2 * k + 2 ∨ 109 < a) → I2 a = I a) → (if mt (fun x => f (i + x)) k (hearV F v t w) then fR F t (fun x => f (i + x)) m (k + 1) (3 * num + w) (hearV F v t w) else none) = some x → P (nI x) I2 J) → (∀ I2, (∀ a, (a < 96 + 2 * k + 2 ∨ 109 < a) → I2 a = I a) → (if mt (fun x => f (i + x)) k (hearV F v t w) then fR F t (fun x => f (i + x)) m (k + 1) (3 * num + w) (hearV F v t w) else none) = none → Lp_X7_firstRow_15 g d (nI k) (nI num) (nI t) p (nI i) (nI n) (nI (w + 1)) I2 J P) → Lp_X7_firstRow_15 g d (nI k) (nI num) (nI t) p (nI i) (nI n) (nI w) I1 J P := by
      intro w hw I1 c1 g1 g2
      refine w_X7_firstRow_15 hp (by omega) ?_
      unfold VC_X7_firstRow_15
      rw [nI_add, nI_one, nI_one, nI_cl (by omega), hJ _ (by omega)]
      refine ⟨fun z => absurd ((nI_leI (a := 3) (by omega) (by omega)).mp z) (by omega), fun _ => ⟨vp_in_nI (by omega) (by omega), ?_⟩⟩
      refine s_X7_leadsTo (by omega) (by omega) (hC.cg (c1 _ (by omega)) (c1 _ (by omega))) (hS.cg (c1 _ (by omega)) (c1 _ (by omega))) hW hv ht hw (fun I2 d1 d2 => ?_)
      have e2 : ∀ a, (a < 96 + 2 * k + 2 ∨ 109 < a) → I2 a = I a := fun a ha => by rw [d2 a (by omega) (by omega), c1 a ha]
      unfold mt at g1 g2
      refine ⟨fun z => ?_, fun z => ?_⟩
      · rw [z] at g2; exact g2 I2 e2 rfl
      · rw [z, if_pos rfl] at g1 g2
        rw [show (3 : Int32) * nI num + nI w = nI (3 * num + w) from by rw [show (3 : Int32) = nI 3 from rfl, pk_mul, nI_add]]
        refine ih (d - 1) (k + 1) _ _ I2 _ (by omega) (by omega) (hb w hw) d1 (hS.cg (e2 _ (by omega)) (e2 _ (by omega))) (okV_hear hv hW) (fun I3 f1 => ?_)
        have e3 : ∀ a, (a < 96 + 2 * k + 2 ∨ 109 < a) → I3 a = I a := fun a ha => by rw [f1 a (by omega), e2 a ha]
        cases hf : fR F t (fun x => f (i + x)) m (k + 1) (3 * num + w) (hearV F v t w) with
        | none => exact ⟨fun _ => g2 I3 e3 hf, fun z => absurd (show (-4 : Int32) < 0 by decide) z⟩
        | some x =>
          have hx := fR_lt (hb w hw) hf
          exact ⟨fun z => absurd z (nI_pos (by omega)), fun _ => g1 I3 x e3 hf⟩
    have h : ∀ I', (∀ a, (a < 96 + 2 * k + 2 ∨ 109 < a) → I' a = I a) → P (oI (orE (if mt (fun x => f (i + x)) k (hearV F v t 0) then fR F t (fun x => f (i + x)) m (k + 1) (3 * num + 0) (hearV F v t 0) else none) (orE (if mt (fun x => f (i + x)) k (hearV F v t 1) then fR F t (fun x => f (i + x)) m (k + 1) (3 * num + 1) (hearV F v t 1) else none) (if mt (fun x => f (i + x)) k (hearV F v t 2) then fR F t (fun x => f (i + x)) m (k + 1) (3 * num + 2) (hearV F v t 2) else none)))) I' J := h
    refine step 0 (by omega) I (fun _ _ => rfl) (fun I2 x e2 hx => ?_) (fun I2 e2 h0 => ?_)
    · have := h I2 e2; rw [hx] at this; exact this
    rw [h0] at h
    refine step 1 (by omega) I2 e2 (fun I3 x e3 hx => ?_) (fun I3 e3 h1 => ?_)
    · have := h I3 e3; rw [hx] at this; exact this
    rw [h1] at h
    refine step 2 (by omega) I3 e3 (fun I4 x e4 hx => ?_) (fun I4 e4 h2 => ?_)
    · have := h I4 e4; rw [hx] at this; exact this
    rw [h2] at h
    refine w_X7_firstRow_15 hp (by omega) ?_
    unfold VC_X7_firstRow_15
    exact ⟨fun _ => h I4 e4, fun z => absurd (by decide) z⟩
end RWS
abbrev cRw (s t sh ln n w : Int32) (σ : ST) : Prop := (inN s (sF σ 0) = true ∧ inN t 4 = true ∧ inN sh 4 = true ∧ inN ln 4 = true) ∧ inR n.toInt 1 6 = true ∧ inN w 2 = true
def rVal (F : NF) (s t : Nat) (f : Nat → Int64) (i n : Nat) (w : Int32) : Int32 := if w = 0 then nI (cntB (chk F t (fun x => f (i + x)) n 0 (shipOf F s)) (3 ^ n)) else oI (fstB (chk F t (fun x => f (i + x)) n 0 (shipOf F s)) (3 ^ n))
def vRows (s t sh ln i n w : Int32) (σ : ST) : Int32 := if cRw s t sh ln n w σ then (if 0 ≤ rfs (sS σ sh.toNatClampNeg) ln i n then rVal (sF σ) s.toNatClampNeg t.toNatClampNeg (sX σ sh.toNatClampNeg) i.toNatClampNeg n.toNatClampNeg w else rfs (sS σ sh.toNatClampNeg) ln i n) else -1
theorem fR_0 {F : NF} {t : Nat} {G : Nat → Int64} {m : Nat} {v : Vy} : fR F t G m 0 0 v = fstB (chk F t G m 0 v) (3 ^ m) := by
  rw [fR_eq]
  cases fstB (chk F t G m 0 v) (3 ^ m) with
  | none => rfl
  | some x => show some (0 * 3 ^ m + x) = some x; rw [Nat.zero_mul, Nat.zero_add]
theorem e_rows {g : GT} (a0 a1 a2 a3 a4 a5 a6 : Int32) : EQI g Rel M_X7_rows M_X8_rows [.int a0, .int a1, .int a2, .int a3, .int a4, .int a5, .int a6] := by
  refine eqI_of (vRows a0 a1 a2 a3 a4 a5 a6) id (fun σ I J P hk hC h => ?_) (fun σ I J P hk hM h => ?_) (fun _ h => h)
  · refine w_X7_rows (by omega) ?_
    unfold VC_X7_rows
    unfold vRows at h
    have bad : ¬ cRw a0 a1 a2 a3 a5 a6 σ → P (-1) I J := fun z => by rw [if_neg z] at h; exact h I J hC smM.rf
    refine s_X7_canTell (by omega) hC.2.1 hk.1 ⟨fun q => bad (fun z => by rw [cTel_t.mpr z.1] at q; cases q), fun q => ?_⟩
    have q := cTel_t.mp q
    rw [Int32.lt_iff_toInt_lt, Int32.lt_iff_toInt_lt, show (1 : Int32).toInt = 1 from by decide, show (6 : Int32).toInt = 6 from by decide]
    refine ⟨fun z => bad (fun y => by have := of_decide_eq_true y.2.1; omega), fun z1 => ⟨fun z => bad (fun y => by have := of_decide_eq_true y.2.1; omega), fun z2 => ?_⟩⟩
    have q5 : inR a5.toInt 1 6 = true := decide_eq_true (by omega)
    refine s_X7_isPart ⟨fun q6 => ?_, fun z => bad (fun y => ff z y.2.2)⟩
    have qc : cRw a0 a1 a2 a3 a5 a6 σ := ⟨q, q5, q6⟩
    obtain ⟨p1, p2, p3, p4⟩ := q
    have h6 := hk.1.1
    have hW := hk.1.W
    obtain ⟨s, hs, rfl⟩ := inN_n p1 (by omega)
    obtain ⟨t, ht, rfl⟩ := inN_n p2 (by omega)
    obtain ⟨k, hk4, rfl⟩ := inN_n p3 (by omega)
    obtain ⟨n, hn1, hn, rfl⟩ := inR_n (a := 1) (b := 6) q5 (by omega)
    rw [if_pos qc] at h
    rw [nI_cl (n := k) (by omega), nI_cl (n := n) (by omega), nI_cl (n := s) (by omega), nI_cl (n := t) (by omega)] at h
    have hs4 := hk.2.2.2.2.2.2.2 k hk4
    refine s_X7_refusalOf (by omega) hk4 hC.2.2.2.2.2 hs4.2 ⟨fun q7 => ?_, fun q7 => ?_⟩
    · rw [if_pos q7] at h
      obtain ⟨z1, z2, z3⟩ := rfs_0 q7
      obtain ⟨i, hi, rfl⟩ := hld_n (by omega) hs4.2 z3
      rw [nI_cl (n := i) (by omega)] at h
      rw [nI_cl (n := k) (by omega)]
      have t4 := hs4.2
      have hJ : ∀ x, x < 24 → J (110 + 2 * k + 1) x = sX σ k x := fun x hx => by
        have := (hC.2.2.2.2.2 k hk4).2.2.2 x hx
        rwa [show 111 + 2 * k = 110 + 2 * k + 1 from by omega] at this
      unfold rVal at h
      refine s_X6_board (by omega) isV_96 isF_3 (by omega) hC.2.1 hk.1 hs (fun I1 b1 b2 => ?_)
      have done : ∀ I2, (∀ a, (a < 96 ∨ 109 < a) → I2 a = I a) → RelC I2 J (id σ) ∧ smM I J I2 J := fun I2 e2 => ⟨hC.scr (J' := J) (fun a ha => e2 a (by omega)) (fun _ _ _ => rfl), ⟨fun a ha => e2 a (by omega), fun _ _ => rfl⟩⟩
      have hSea := hC.2.1.sea.cg (b2 4 (by omega) (by omega)) (b2 5 (by omega) (by omega))
      refine ⟨fun z => ⟨vp_in_nI hk4 (by omega), ?_⟩, fun z => ⟨vp_in_nI hk4 (by omega), ?_⟩⟩
      · rw [if_neg z] at h
        refine s_X7_firstRow (f := sX σ k) (isS_78 k hk4) hW ht hn (by omega) hJ n 39 0 0 _ I1 _ (by omega) (by omega) (by decide) b1 hSea (hk.1.ship hs) (fun I2 e2 => ?_)
        have := done I2 (fun a ha => by rw [e2 a (by omega), b2 a (by omega) (by omega)])
        rw [fR_0]
        exact h I2 J this.1 this.2
      · rw [if_pos z] at h
        refine s_X7_countRows (f := sX σ k) (P := P) (isS_78 k hk4) hW ht hn (by omega) hJ n 39 0 _ I1 _ (by omega) (by omega) b1 hSea (hk.1.ship hs) (fun I2 e2 => ?_)
        have := done I2 (fun a ha => by rw [e2 a (by omega), b2 a (by omega) (by omega)])
        rw [cR_eq]
        exact h I2 J this.1 this.2
    · rw [if_neg q7] at h
      exact h I J hC smM.rf
  · refine w_X8_rows (by omega) ?_
    unfold VC_X8_rows
    unfold vRows at h
    have bad : ¬ cRw a0 a1 a2 a3 a5 a6 σ → P (-1) I J := fun z => by rw [if_neg z] at h; exact h I J hM smC.rf
    refine s_X8_isShip (by omega) hM.2.1 hk.1 ⟨fun z => bad (fun y => ff z y.1.1), fun p1 => ?_⟩
    refine s_X8_isTeller (by omega) ⟨fun z => bad (fun y => ff z y.1.2.1), fun p2 => ?_⟩
    refine s_X8_isLane (by omega) ⟨fun z => bad (fun y => by rw [y.1.2.2.1, y.1.2.2.2] at z; cases z), fun p34 => ?_⟩
    obtain ⟨p3, p4⟩ := Bool.and_eq_true_iff.mp p34
    refine s_X8_inR (lo := 1) (hi := 6) (by decide) (by decide) ⟨fun z => bad (fun y => ff z y.2.1), fun q5 => ?_⟩
    refine s_X8_inN (n := 2) (by decide) ⟨fun q6 => ?_, fun z => bad (fun y => ff z y.2.2)⟩
    have qc : cRw a0 a1 a2 a3 a5 a6 σ := ⟨⟨p1, p2, p3, p4⟩, q5, q6⟩
    have h6 := hk.1.1
    have hW := hk.1.W
    obtain ⟨s, hs, rfl⟩ := inN_n p1 (by omega)
    obtain ⟨t, ht, rfl⟩ := inN_n p2 (by omega)
    obtain ⟨k, hk4, rfl⟩ := inN_n p3 (by omega)
    obtain ⟨n, hn1, hn, rfl⟩ := inR_n (a := 1) (b := 6) q5 (by omega)
    rw [if_pos qc] at h
    rw [nI_cl (n := k) (by omega), nI_cl (n := n) (by omega), nI_cl (n := s) (by omega), nI_cl (n := t) (by omega)] at h
    have hs4 := hk.2.2.2.2.2.2.2 k hk4
    refine s_X8_against hk4 (by omega) hM.2.2.2.2.2 hs4.2 ⟨fun q7 => ?_, fun q7 => ?_⟩
    · rw [if_pos q7] at h
      obtain ⟨z1, z2, z3⟩ := rfs_0 q7
      obtain ⟨i, hi, rfl⟩ := hld_n (by omega) hs4.2 z3
      rw [nI_cl (n := i) (by omega)] at h
      have t4 := hs4.2
      have hJ : ∀ x, x < 24 → J 121 (24 * k + x) = sX σ k x := fun x hx => (hM.2.2.2.2.2 k hk4).2.2 x hx
      unfold rVal at h
      have h9 := p3_le hn
      refine upTo (Q := fun x => Lp_X8_rows_77 g 40 (nI s) (nI t) (nI k) (nI i) (nI n) a6 (nI (3 ^ x)) (nI x) I J P) (N := n) ?_ (fun x hx ih => ?_)
      · refine w_X8_rows_77 ?_
        unfold VC_X8_rows_77
        refine ⟨fun _ => ?_, fun z => absurd (nI_le (Nat.le_refl _) (by omega)) z⟩
        refine upTo (Q := fun c => ∀ I1, frX I I1 → Lp_X8_rows_106 g 40 (nI s) (nI t) (nI k) (nI i) (nI n) a6 (nI (3 ^ n)) (nI (cntB (chk (sF σ) t (fun x => sX σ k (i + x)) n 0 (shipOf (sF σ) s)) c)) (oI (fstB (chk (sF σ) t (fun x => sX σ k (i + x)) n 0 (shipOf (sF σ) s)) c)) (nI c) I1 J P) (N := 3 ^ n) (fun I1 c1 => ?_) (fun c hc ihc I1 c1 => ?_) I frX.rf
        · refine w_X8_rows_106 (by omega) ?_
          unfold VC_X8_rows_106
          refine ⟨fun _ => ⟨fun z => ?_, fun z => ?_⟩, fun z => absurd (nI_le (Nat.le_refl _) (by omega)) z⟩
          · rw [if_neg z] at h; exact h I1 J (c1.M hM) c1.C
          · rw [if_pos z] at h; exact h I1 J (c1.M hM) c1.C
        · refine w_X8_rows_106 (by omega) ?_
          unfold VC_X8_rows_106
          refine ⟨fun z => absurd ((nI_leI (by omega) (by omega)).mp z) (by omega), fun _ => ?_⟩
          refine s_X8_tries (by omega) (c1.F hM.2.1) (fun I2 b1 b2 => ?_)
          have fcn := fstB_c (p := chk (sF σ) t (fun x => sX σ k (i + x)) n 0 (shipOf (sF σ) s)) c
          have cle : cntB (chk (sF σ) t (fun x => sX σ k (i + x)) n 0 (shipOf (sF σ) s)) c ≤ c := by
            have : ∀ (p : Nat → Bool) N, cntB p N ≤ N := by
              intro p N
              induction N with
              | zero => exact Nat.le_refl _
              | succ N ih => rw [cntB_s]; split <;> omega
            exact this _ c
          have fin : ∀ b I3, frX I I3 → chk (sF σ) t (fun x => sX σ k (i + x)) n 0 (shipOf (sF σ) s) c = b → Lp_X8_rows_204 g 40 (nI s) (nI t) (nI k) (nI i) (nI n) a6 (nI (3 ^ n)) (nI (cntB (chk (sF σ) t (fun x => sX σ k (i + x)) n 0 (shipOf (sF σ) s)) c)) (oI (fstB (chk (sF σ) t (fun x => sX σ k (i + x)) n 0 (shipOf (sF σ) s)) c)) (nI c) b I3 J P := by
            intro b I3 c3 hb
            refine w_X8_rows_204 ?_
            unfold VC_X8_rows_204
            have ihc := ihc I3 c3
            rw [cntB_s, fstB_s, hb] at ihc
            rw [x0, nI_one, nI_one]
            cases b with
            | false =>
              have ihc : Lp_X8_rows_106 g 40 (nI s) (nI t) (nI k) (nI i) (nI n) a6 (nI (3 ^ n)) (nI (cntB (chk (sF σ) t (fun x => sX σ k (i + x)) n 0 (shipOf (sF σ) s)) c)) (oI (fstB (chk (sF σ) t (fun x => sX σ k (i + x)) n 0 (shipOf (sF σ) s)) c)) (nI (c + 1)) I3 J P := by
                have e : orE (fstB (chk (sF σ) t (fun x => sX σ k (i + x)) n 0 (shipOf (sF σ) s)) c) (if false = true then some c else none) = fstB (chk (sF σ) t (fun x => sX σ k (i + x)) n 0 (shipOf (sF σ) s)) c := by
                  cases fstB (chk (sF σ) t (fun x => sX σ k (i + x)) n 0 (shipOf (sF σ) s)) c <;> rfl
                rw [e] at ihc; exact ihc
              exact ⟨fun _ => ⟨fun _ => ihc, fun z => Bool.noConfusion z⟩, fun z => Bool.noConfusion z⟩
            | true =>
              refine ⟨fun z => Bool.noConfusion z, fun _ => ⟨fun z => ⟨fun z => Bool.noConfusion z, fun _ => ?_⟩, fun z => ⟨fun z => Bool.noConfusion z, fun _ => ?_⟩⟩⟩
              · cases hf : fstB (chk (sF σ) t (fun x => sX σ k (i + x)) n 0 (shipOf (sF σ) s)) c with
                | none => exact absurd (by rw [fcn.mpr hf]; rfl) z
                | some y => rw [hf] at ihc; exact ihc
              · have z : cntB (chk (sF σ) t (fun x => sX σ k (i + x)) n 0 (shipOf (sF σ) s)) c = 0 := (nI_eq (b := 0) (by omega) (by omega)).mp z
                have hf := fcn.mp z
                rw [hf] at ihc; exact ihc
          -- the words of one code
          refine upTo (Q := fun x => ∀ I3 v, frX I I3 → MV I3 320 s v → MSea I3 320 (sF σ) → okV (sF σ) v → chk (sF σ) t (fun x => sX σ k (i + x)) n 0 (shipOf (sF σ) s) c = chk (sF σ) t (fun x => sX σ k (i + x)) (n - x) x v c → Lp_X8_rows_127 g 40 (nI s) (nI t) (nI k) (nI i) (nI n) a6 (nI (3 ^ n)) (nI (cntB (chk (sF σ) t (fun x => sX σ k (i + x)) n 0 (shipOf (sF σ) s)) c)) (oI (fstB (chk (sF σ) t (fun x => sX σ k (i + x)) n 0 (shipOf (sF σ) s)) c)) (nI c) true (nI (3 ^ (n - x))) (nI x) I3 J P) (N := n) (fun I3 v c2 c3 c4 c5 c6 => ?_) (fun x hx ihx I3 v c2 c3 c4 c5 c6 => ?_) I2 _ (c1.tr b2.x) (b1.ship (by omega)) b1.sea (hk.1.ship hs) rfl
          · refine w_X8_rows_127 (by omega) ?_
            unfold VC_X8_rows_127
            refine ⟨fun _ => fin true I3 c2 ?_, fun z => absurd (nI_le (Nat.le_refl _) (by omega)) z⟩
            rw [c6, Nat.sub_self]; rfl
          · refine w_X8_rows_127 (by omega) ?_
            unfold VC_X8_rows_127
            obtain ⟨m, hm⟩ : ∃ m, n - x = m + 1 := ⟨n - x - 1, by omega⟩
            have hm' : n - (x + 1) = m := by omega
            rw [hm] at c6 ⊢
            rw [hm'] at ihx
            have h9m : 3 ^ m ≤ 729 := p3_le (by omega)
            have h9m1 : 3 ^ (m + 1) ≤ 729 := p3_le (by omega)
            have h0m := p3_pos m
            rw [show nI (3 ^ (m + 1)) / 3 = nI (3 ^ m) from by rw [show (3 : Int32) = nI 3 from rfl, pk_div (by omega) (by omega) (by omega), Nat.pow_succ, Nat.mul_div_cancel _ (by omega)]]
            have hdl : c / 3 ^ m < 2 ^ 31 := Nat.lt_of_le_of_lt (Nat.div_le_self _ _) (by omega)
            rw [pk_div (by omega) h0m (by omega), show nI (c / 3 ^ m) - nI (c / 3 ^ m) / 3 * 3 = nI (c / 3 ^ m % 3) from by rw [show (3 : Int32) = nI 3 from rfl, pk_rem hdl (by omega) (by omega)]]
            rw [show (24 : Int32) * nI k + nI i + nI x = nI (24 * k + (i + x)) from by rw [show (24 : Int32) = nI 24 from rfl, pk_mul, nI_add, nI_add]; congr 1; omega, nI_cl (n := 24 * k + (i + x)) (by omega), nI_one, ix2 378 s 378 rfl, nI_cl (by omega)]
            refine ⟨fun z => absurd ((nI_leI (by omega) (by omega)).mp z) (by omega), fun _ => ⟨fun z => Bool.noConfusion z, fun _ => ⟨fun z => absurd ((nI_eq (b := 0) (by omega) (by omega)).mp z) (by omega), ?_⟩⟩⟩
            refine s_X8_says (r := 320) (by omega) (by omega) (by omega) ht (Nat.mod_lt _ (by omega)) c3 c4 hW c5 (fun I4 d1 d2 _ => ⟨vp_in_nI (by omega) (by omega), vp_in_nI (by omega) (by omega), ?_⟩)
            have e4 := c2.tr (d2.t (by omega)).x
            rw [show I4 119 (378 + s) = nI (hearV (sF σ) v t (c / 3 ^ m % 3)).2.1 from by have := d1.2.1; rwa [show 320 + 58 + s = 378 + s from by omega] at this, hJ (i + x) (by omega)]
            have c6 : chk (sF σ) t (fun x => sX σ k (i + x)) n 0 (shipOf (sF σ) s) c = (mt (fun x => sX σ k (i + x)) x (hearV (sF σ) v t (c / 3 ^ m % 3)) && chk (sF σ) t (fun x => sX σ k (i + x)) m (x + 1) (hearV (sF σ) v t (c / 3 ^ m % 3)) c) := c6
            unfold mt at c6
            refine ⟨fun z => ?_, fun z => ?_⟩
            · rw [decide_eq_false z, Bool.false_and] at c6
              refine w_X8_rows_127 (by omega) ?_
              unfold VC_X8_rows_127
              exact ⟨fun _ => fin false I4 e4 c6, fun _ => ⟨fun _ => fin false I4 e4 c6, fun z => Bool.noConfusion z⟩⟩
            · rw [decide_eq_true z, Bool.true_and] at c6
              exact ihx I4 _ e4 d1 (d2.sea (by omega) c4) (okV_hear c5 hW) c6
      · refine w_X8_rows_77 ?_
        unfold VC_X8_rows_77
        rw [nI_one, show nI (3 ^ x) * 3 = nI (3 ^ (x + 1)) from by rw [show (3 : Int32) = nI 3 from rfl, pk_mul, Nat.pow_succ]]
        exact ⟨fun z => absurd ((nI_leI (by omega) (by omega)).mp z) (by omega), fun _ => ih⟩
    · rw [if_neg q7] at h
      exact h I J hM smC.rf
