/-! ===== the memory of what is there from the start, whole numbers as natural ones; the steps of a walk in the abstract machine ===== -/
abbrev zMm : Type := Nat → Nat → Nat → Nat
def u3 (m : zMm) (g a i x : Nat) : zMm := fun g' a' i' => if g' = g ∧ a' = a ∧ i' = i then x else m g' a' i'
theorem u3_eq (m : zMm) (g a i x : Nat) : u3 m g a i x g a i = x := if_pos ⟨rfl, rfl, rfl⟩
theorem u3_g {m : zMm} {g a i x g' a' i' : Nat} (h : g' ≠ g) : u3 m g a i x g' a' i' = m g' a' i' := if_neg fun q => h q.1
theorem u3_a {m : zMm} {g a i x g' a' i' : Nat} (h : a' ≠ a) : u3 m g a i x g' a' i' = m g' a' i' := if_neg fun q => h q.2.1
theorem u3_i {m : zMm} {g a i x g' a' i' : Nat} (h : i' ≠ i) : u3 m g a i x g' a' i' = m g' a' i' := if_neg fun q => h q.2.2
theorem u3_u3 (m : zMm) (g a i x y : Nat) : u3 (u3 m g a i x) g a i y = u3 m g a i y := by
  funext g' a' i'
  unfold u3
  by_cases q : g' = g ∧ a' = a ∧ i' = i
  · rw [if_pos q, if_pos q]
  · rw [if_neg q, if_neg q, if_neg q]
theorem u3_self {m : zMm} {g a i x : Nat} (h : m g a i = x) : u3 m g a i x = m := by
  funext g' a' i'
  unfold u3
  by_cases q : g' = g ∧ a' = a ∧ i' = i
  · rw [if_pos q, q.1, q.2.1, q.2.2, h]
  · rw [if_neg q]
theorem u3_com {m : zMm} {g a i x g' a' i' y : Nat} (hn : ¬ (g = g' ∧ a = a' ∧ i = i')) : u3 (u3 m g a i x) g' a' i' y = u3 (u3 m g' a' i' y) g a i x := by
  funext g2 a2 i2
  unfold u3
  by_cases q : g2 = g ∧ a2 = a ∧ i2 = i
  · rw [if_pos q, if_neg (fun z => hn ⟨q.1.symm.trans z.1, q.2.1.symm.trans z.2.1, q.2.2.symm.trans z.2.2⟩), if_pos q]
  · by_cases q2 : g2 = g' ∧ a2 = a' ∧ i2 = i'
    · rw [if_pos q2, if_neg q, if_pos q2]
    · rw [if_neg q2, if_neg q, if_neg q, if_neg q2]
/-- a heap whose whole numbers at 100 .. 153 are those of m -/
def zMH (h : zH) (m : zMm) : zH := (h.1, h.2.1, h.2.2.1, (fun g a i => if 100 ≤ a ∧ a < 154 then nI (m g a i) else zI h g a i), h.2.2.2.2.1, h.2.2.2.2.2)
theorem zMH_I {h : zH} {m : zMm} {g a i : Nat} (ha : 100 ≤ a ∧ a < 154) : zI (zMH h m) g a i = nI (m g a i) := if_pos ha
theorem zMH_D {h : zH} {m : zMm} {g a i : Nat} (ha : 154 ≤ a) : zI (zMH h m) g a i = zI h g a i := if_neg (by omega)
theorem zMH_s {h : zH} {m : zMm} {g a i x : Nat} (ha : 100 ≤ a ∧ a < 154) : zsI (zMH h m) g a i (nI x) = zMH h (u3 m g a i x) := by
  unfold zsI zMH
  refine congrArg (fun f => (h.1, h.2.1, h.2.2.1, f, h.2.2.2.2.1, h.2.2.2.2.2)) ?_
  funext g' a' i'
  show (if g' = g ∧ a' = a ∧ i' = i then nI x else (if 100 ≤ a' ∧ a' < 154 then nI (m g' a' i') else zI h g' a' i')) = (if 100 ≤ a' ∧ a' < 154 then nI (u3 m g a i x g' a' i') else zI h g' a' i')
  unfold u3
  by_cases q : g' = g ∧ a' = a ∧ i' = i
  · rw [if_pos q, if_pos (by omega), if_pos q]
  · rw [if_neg q, if_neg q]
theorem zMH_d {h : zH} {m : zMm} {g a i : Nat} {x : Int32} (ha : 154 ≤ a) : zsI (zMH h m) g a i x = zMH (zsI h g a i x) m := by
  unfold zsI zMH
  refine congrArg (fun f => (h.1, h.2.1, h.2.2.1, f, h.2.2.2.2.1, h.2.2.2.2.2)) ?_
  funext g' a' i'
  show (if g' = g ∧ a' = a ∧ i' = i then x else (if 100 ≤ a' ∧ a' < 154 then nI (m g' a' i') else zI h g' a' i')) = (if 100 ≤ a' ∧ a' < 154 then nI (m g' a' i') else (if g' = g ∧ a' = a ∧ i' = i then x else zI h g' a' i'))
  by_cases q : 100 ≤ a' ∧ a' < 154
  · rw [if_pos q, if_pos q, if_neg (by omega)]
  · rw [if_neg q, if_neg q]
theorem zMH_N {h : zH} {m : zMm} {t n k : Nat} (hn : 154 ≤ zN h) : zNew (zMH h m) t n k = zMH (zNew h t n k) m := by
  unfold zNew zMH
  refine congrArg (fun f => ((zN h + 1, zC h + 1, zS h + k), (fun a => if a = zN h then t else zT h a), (fun a => if a = zN h then n else zE h a), f, (fun g a i => if a = zN h then (0 : Int64) else zL h g a i), (fun g a i => if a = zN h then (none : Option Nat) else zR h g a i))) ?_
  funext g' a' i'
  show (if a' = zN h then (0 : Int32) else (if 100 ≤ a' ∧ a' < 154 then nI (m g' a' i') else zI h g' a' i')) = (if 100 ≤ a' ∧ a' < 154 then nI (m g' a' i') else (if a' = zN h then (0 : Int32) else zI h g' a' i'))
  by_cases q : 100 ≤ a' ∧ a' < 154
  · rw [if_pos q, if_pos q, if_neg (by omega)]
  · rw [if_neg q, if_neg q]
theorem zMH_R {h : zH} {m : zMm} {g a i : Nat} {x : Option Nat} : zsR (zMH h m) g a i x = zMH (zsR h g a i x) m := rfl
theorem zMH_L {h : zH} {m : zMm} {g a i : Nat} {x : Int64} : zsL (zMH h m) g a i x = zMH (zsL h g a i x) m := rfl
/-! numbers -/
theorem zi_add (a b : Nat) : nI a + nI b = nI (a + b) := (Int32.ofNat_add a b).symm
theorem zi_mul (a b : Nat) : nI a * nI b = nI (a * b) := (Int32.ofNat_mul a b).symm
theorem zi_sub {a b : Nat} (h : b ≤ a) : nI a - nI b = nI (a - b) := (Int32.ofNat_sub a b h).symm
theorem zi_toInt {a : Nat} (h : a < 2147483648) : (nI a).toInt = (a : Int) := Int32.toInt_ofNat_of_lt h
theorem zi_clamp {a : Nat} (h : a < 2147483648) : (nI a).toNatClampNeg = a := by
  show (nI a).toInt.toNat = a
  rw [zi_toInt h]; rfl
theorem zi_lt {a b : Nat} (ha : a < 2147483648) (hb : b < 2147483648) : nI a < nI b ↔ a < b := by
  rw [Int32.lt_iff_toInt_lt, zi_toInt ha, zi_toInt hb]; omega
theorem zi_le {a b : Nat} (ha : a < 2147483648) (hb : b < 2147483648) : nI a ≤ nI b ↔ a ≤ b := by
  rw [Int32.le_iff_toInt_le, zi_toInt ha, zi_toInt hb]; omega
theorem zi_inj {a b : Nat} (ha : a < 2147483648) (hb : b < 2147483648) : nI a = nI b ↔ a = b := by
  constructor
  · intro h
    have := congrArg Int32.toInt h
    rw [zi_toInt ha, zi_toInt hb] at this
    omega
  · rintro rfl; rfl
theorem zi_nneg {a : Nat} (h : a < 2147483648) : ¬ nI a < 0 := by
  show ¬ nI a < nI 0
  rw [zi_lt h (by decide)]; omega
theorem zi_div {a b : Nat} (hb : b < 2147483648) (ha : a < 2147483648) : nI a / nI b = nI (a / b) := by
  apply Int32.toInt_inj.mp
  rw [Int32.toInt_div, zi_toInt ha, zi_toInt hb, zi_toInt (Nat.lt_of_le_of_lt (Nat.div_le_self a b) ha)]
  have h1 : (a : Int).tdiv (b : Int) = ((a / b : Nat) : Int) := rfl
  rw [h1]
  have h2 := Nat.lt_of_le_of_lt (Nat.div_le_self a b) ha
  generalize a / b = q at h2 ⊢
  exact Int.bmod_eq_of_le (by omega) (by omega)
theorem zi_rem {a b : Nat} (hb : b < 2147483648) (ha : a < 2147483648) : nI a - nI a / nI b * nI b = nI (a % b) := by
  rw [zi_div hb ha, zi_mul, zi_sub (Nat.div_mul_le_self a b)]
  congr 1
  have := Nat.div_add_mod a b
  have h2 : a / b * b = b * (a / b) := Nat.mul_comm _ _
  omega
theorem zi_and (a b : Nat) : nI a &&& nI b = nI (a &&& b) := by
  apply Int32.toBitVec_inj.mp
  show BitVec.ofNat 32 a &&& BitVec.ofNat 32 b = BitVec.ofNat 32 (a &&& b)
  apply BitVec.eq_of_toNat_eq
  rw [BitVec.toNat_and, BitVec.toNat_ofNat, BitVec.toNat_ofNat, BitVec.toNat_ofNat, Nat.and_mod_two_pow]
theorem zi_or (a b : Nat) : nI a ||| nI b = nI (a ||| b) := by
  apply Int32.toBitVec_inj.mp
  show BitVec.ofNat 32 a ||| BitVec.ofNat 32 b = BitVec.ofNat 32 (a ||| b)
  apply BitVec.eq_of_toNat_eq
  rw [BitVec.toNat_or, BitVec.toNat_ofNat, BitVec.toNat_ofNat, BitVec.toNat_ofNat, Nat.or_mod_two_pow]
theorem zi_ne0 {x : Nat} (hx : x < 2147483648) (c : x ≠ 0) : ¬ nI x = 0 := fun q => c ((zi_inj (b := 0) hx (by decide)).mp q)
theorem zi_gt0 {x : Nat} (hx : x < 2147483648) (c : x ≠ 0) : (0 : Int32) < nI x := (zi_lt (a := 0) (by decide) hx).mpr (by omega)
theorem zi_z1 (b : Bool) : (nI b.toNat) &&& 1 = nI b.toNat := by cases b <;> rfl
theorem zi_z2 {x : Nat} (h : x < 2) : (nI x) &&& 1 = nI x := by
  rcases (by omega : x = 0 ∨ x = 1) with rfl | rfl <;> rfl
theorem zi_char {x : Nat} (h : x < 65536) : (nI x).toUInt32.toUInt16.toUInt32.toInt32 = nI x := by
  apply Int32.toBitVec_inj.mp
  apply BitVec.eq_of_toNat_eq
  have e1 : (nI x).toBitVec.toNat = x := by
    show (BitVec.ofNat 32 x).toNat = x
    rw [BitVec.toNat_ofNat]; omega
  rw [e1]
  show ((((nI x).toBitVec).setWidth 16).setWidth 32).toNat = x
  rw [BitVec.toNat_setWidth, BitVec.toNat_setWidth, e1]
  omega
def nL (n : Nat) : Int64 := Int64.ofNat n
theorem zl_inj {a b : Nat} (ha : a < 18446744073709551616) (hb : b < 18446744073709551616) : nL a = nL b ↔ a = b := by
  constructor
  · intro h
    have h1 : (BitVec.ofNat 64 a).toNat = (BitVec.ofNat 64 b).toNat := congrArg (fun x : Int64 => x.toBitVec.toNat) h
    rw [BitVec.toNat_ofNat, BitVec.toNat_ofNat] at h1
    omega
  · rintro rfl; rfl
theorem zl_cmp0 (x y : Int64) : lg_cmp x y = 0 ↔ x = y := by
  unfold lg_cmp
  constructor
  · intro h
    split at h
    · exact absurd h (by decide)
    · split at h
      · assumption
      · exact absurd h (by decide)
  · intro h
    subst h
    rw [if_neg (by rw [gt_iff_lt, Int64.lt_iff_toInt_lt]; omega), if_pos rfl]
theorem zl_eq {a b : Nat} (c : a = b) : lg_cmp (nL a) (nL b) = 0 := (zl_cmp0 _ _).mpr (congrArg nL c)
theorem zl_ne {a b : Nat} (ha : a < 18446744073709551616) (hb : b < 18446744073709551616) (c : a ≠ b) : lg_cmp (nL a) (nL b) ≠ 0 := fun q => c ((zl_inj ha hb).mp ((zl_cmp0 _ _).mp q))
theorem zl_add (a b : Nat) : nL a + nL b = nL (a + b) := (Int64.ofNat_add a b).symm
theorem zl_mul (a b : Nat) : nL a * nL b = nL (a * b) := (Int64.ofNat_mul a b).symm
theorem zl_sub {a b : Nat} (h : b ≤ a) : nL a - nL b = nL (a - b) := (Int64.ofNat_sub a b h).symm
theorem zl_and (a b : Nat) : nL a &&& nL b = nL (a &&& b) := by
  apply Int64.toBitVec_inj.mp
  show BitVec.ofNat 64 a &&& BitVec.ofNat 64 b = BitVec.ofNat 64 (a &&& b)
  apply BitVec.eq_of_toNat_eq
  rw [BitVec.toNat_and, BitVec.toNat_ofNat, BitVec.toNat_ofNat, BitVec.toNat_ofNat, Nat.and_mod_two_pow]
theorem zl_or (a b : Nat) : nL a ||| nL b = nL (a ||| b) := by
  apply Int64.toBitVec_inj.mp
  show BitVec.ofNat 64 a ||| BitVec.ofNat 64 b = BitVec.ofNat 64 (a ||| b)
  apply BitVec.eq_of_toNat_eq
  rw [BitVec.toNat_or, BitVec.toNat_ofNat, BitVec.toNat_ofNat, BitVec.toNat_ofNat, Nat.or_mod_two_pow]
theorem zl_i2l {a : Nat} (h : a < 2147483648) : (nI a).toInt64 = nL a := by
  apply Int64.toInt_inj.mp
  rw [Int32.toInt_toInt64, zi_toInt h]
  show (a : Int) = (Int64.ofNat a).toInt
  rw [Int64.toInt_ofNat_of_lt (by omega)]
/-! steps -/
section
variable {P : zP} {r y pc : Nat} {ls : List Slot} {st : List Value} {h : zH} {m : zMm} {H : zH}
theorem zst1_w {ls : List Slot} {i : Nat} {w : Slot} {v : Value} (h1 : ls[i]? = some w) (hw : w ≠ .second) (h2 : ls[i + 1]? ≠ some .second) : zst1 ls i v = some (ls.set i (.val v)) := by
  unfold zst1
  rw [h1]
  cases w with
  | second => exact absurd rfl hw
  | unset =>
    dsimp only
    split
    · rename_i q; exact absurd q h2
    · rfl
  | val x =>
    dsimp only
    split
    · rename_i q; exact absurd q h2
    · rfl
theorem zst2_w {ls : List Slot} {i : Nat} {w w1 : Slot} {v : Value} (h1 : ls[i]? = some w) (hw : w ≠ .second) (h2 : ls[i + 1]? = some w1) (h3 : ls[i + 2]? ≠ some .second) : zst2 ls i v = some ((ls.set i (.val v)).set (i + 1) .second) := by
  unfold zst2
  rw [h1]
  cases w with
  | second => exact absurd rfl hw
  | unset =>
    dsimp only
    rw [h2]
    dsimp only
    split
    · rename_i q; exact absurd q h3
    · rfl
  | val x =>
    dsimp only
    rw [h2]
    dsimp only
    split
    · rename_i q; exact absurd q h3
    · rfl
theorem k_istore {i n : Nat} {x : Int32} {ls' : List Slot} (ho : P.1 y pc = o_istore i n) (hz : zst1 ls i (.int x) = some ls') : zEv P r y pc ls (.int x :: st) H = zEv P r y (pc + n) ls' st H := zEv_go ho (by unfold o_istore; dsimp only; rw [hz])
theorem k_lstore {i n : Nat} {x : Int64} {ls' : List Slot} (ho : P.1 y pc = o_lstore i n) (hz : zst2 ls i (.long x) = some ls') : zEv P r y pc ls (.long x :: st) H = zEv P r y (pc + n) ls' st H := zEv_go ho (by unfold o_lstore; dsimp only; rw [hz])
theorem k_astore {i n : Nat} {v : Value} {ls' : List Slot} (ho : P.1 y pc = o_astore i n) (hv : zIsR v = true) (hz : zst1 ls i v = some ls') : zEv P r y pc ls (v :: st) H = zEv P r y (pc + n) ls' st H := zEv_go ho (by unfold o_astore; dsimp only; rw [hv]; dsimp only; rw [hz])
theorem k_iinc {i : Nat} {k x : Int32} {ls' : List Slot} (ho : P.1 y pc = o_iinc i k) (hl : ls[i]? = some (.val (.int x))) (hz : zst1 ls i (.int (x + k)) = some ls') : zEv P r y pc ls st H = zEv P r y (pc + 3) ls' st H := zEv_go ho (by unfold o_iinc; rw [hl]; dsimp only; rw [hz])
theorem k_iincn {i k x : Nat} {kk : Int32} {ls' : List Slot} (ho : P.1 y pc = o_iinc i kk) (hk : kk = nI k) (hl : ls[i]? = some (.val (.int (nI x)))) (hz : zst1 ls i (.int (nI (x + k))) = some ls') : zEv P r y pc ls st H = zEv P r y (pc + 3) ls' st H := k_iinc ho hl (by rw [hk, zi_add]; exact hz)
theorem k_iadd {a b : Nat} (ho : P.1 y pc = o_iop (fun x y => x + y)) : zEv P r y pc ls (.int (nI b) :: .int (nI a) :: st) H = zEv P r y (pc + 1) ls (.int (nI (a + b)) :: st) H := zEv_go ho (by unfold o_iop; dsimp only; rw [zi_add])
theorem k_imul {a b : Nat} (ho : P.1 y pc = o_iop (fun x y => x * y)) : zEv P r y pc ls (.int (nI b) :: .int (nI a) :: st) H = zEv P r y (pc + 1) ls (.int (nI (a * b)) :: st) H := zEv_go ho (by unfold o_iop; dsimp only; rw [zi_mul])
theorem k_isub {a b : Nat} (ho : P.1 y pc = o_iop (fun x y => x - y)) (hb : b ≤ a) : zEv P r y pc ls (.int (nI b) :: .int (nI a) :: st) H = zEv P r y (pc + 1) ls (.int (nI (a - b)) :: st) H := zEv_go ho (by unfold o_iop; dsimp only; rw [zi_sub hb])
theorem k_idiv {a b : Nat} (ho : P.1 y pc = o_dop (fun x y => x / y)) (h0 : b ≠ 0) (hb : b < 2147483648) (ha : a < 2147483648) : zEv P r y pc ls (.int (nI b) :: .int (nI a) :: st) H = zEv P r y (pc + 1) ls (.int (nI (a / b)) :: st) H := zEv_go ho (by unfold o_dop; dsimp only; rw [if_neg (zi_ne0 hb h0), zi_div hb ha])
theorem k_irem {a b : Nat} (ho : P.1 y pc = o_dop (fun x y => x - x / y * y)) (h0 : b ≠ 0) (hb : b < 2147483648) (ha : a < 2147483648) : zEv P r y pc ls (.int (nI b) :: .int (nI a) :: st) H = zEv P r y (pc + 1) ls (.int (nI (a % b)) :: st) H := zEv_go ho (by unfold o_dop; dsimp only; rw [if_neg (zi_ne0 hb h0), zi_rem hb ha])
theorem k_iand {a b : Nat} (ho : P.1 y pc = o_iop (fun x y => x &&& y)) : zEv P r y pc ls (.int (nI b) :: .int (nI a) :: st) H = zEv P r y (pc + 1) ls (.int (nI (a &&& b)) :: st) H := zEv_go ho (by unfold o_iop; dsimp only; rw [zi_and])
theorem k_ior {a b : Nat} (ho : P.1 y pc = o_iop (fun x y => x ||| y)) : zEv P r y pc ls (.int (nI b) :: .int (nI a) :: st) H = zEv P r y (pc + 1) ls (.int (nI (a ||| b)) :: st) H := zEv_go ho (by unfold o_iop; dsimp only; rw [zi_or])
theorem k_ladd {a b : Nat} (ho : P.1 y pc = o_lop (fun x y => x + y)) : zEv P r y pc ls (.long (nL b) :: .long (nL a) :: st) H = zEv P r y (pc + 1) ls (.long (nL (a + b)) :: st) H := zEv_go ho (by unfold o_lop; dsimp only; rw [zl_add])
theorem k_lmul {a b : Nat} (ho : P.1 y pc = o_lop (fun x y => x * y)) : zEv P r y pc ls (.long (nL b) :: .long (nL a) :: st) H = zEv P r y (pc + 1) ls (.long (nL (a * b)) :: st) H := zEv_go ho (by unfold o_lop; dsimp only; rw [zl_mul])
theorem k_lsub {a b : Nat} (ho : P.1 y pc = o_lop (fun x y => x - y)) (hb : b ≤ a) : zEv P r y pc ls (.long (nL b) :: .long (nL a) :: st) H = zEv P r y (pc + 1) ls (.long (nL (a - b)) :: st) H := zEv_go ho (by unfold o_lop; dsimp only; rw [zl_sub hb])
theorem k_land {a b : Nat} (ho : P.1 y pc = o_lop (fun x y => x &&& y)) : zEv P r y pc ls (.long (nL b) :: .long (nL a) :: st) H = zEv P r y (pc + 1) ls (.long (nL (a &&& b)) :: st) H := zEv_go ho (by unfold o_lop; dsimp only; rw [zl_and])
theorem k_lor {a b : Nat} (ho : P.1 y pc = o_lop (fun x y => x ||| y)) : zEv P r y pc ls (.long (nL b) :: .long (nL a) :: st) H = zEv P r y (pc + 1) ls (.long (nL (a ||| b)) :: st) H := zEv_go ho (by unfold o_lop; dsimp only; rw [zl_or])
theorem k_i2l {a : Nat} (ho : P.1 y pc = o_i2l) (ha : a < 2147483648) : zEv P r y pc ls (.int (nI a) :: st) H = zEv P r y (pc + 1) ls (.long (nL a) :: st) H := zEv_go ho (by unfold o_i2l; dsimp only; rw [zl_i2l ha])
/-! branches: taken (t), not taken (f) -/
theorem k_ifeq_t {x t : Nat} (ho : P.1 y pc = o_ifeq t) (c : x = 0) : zEv P r y pc ls (.int (nI x) :: st) H = zEv P r y t ls st H := zEv_go ho (by subst c; rfl)
theorem k_ifeq_f {x t : Nat} (ho : P.1 y pc = o_ifeq t) (hx : x < 2147483648) (c : x ≠ 0) : zEv P r y pc ls (.int (nI x) :: st) H = zEv P r y (pc + 3) ls st H := zEv_go ho (by unfold o_ifeq; dsimp only; rw [if_neg (zi_ne0 hx c)])
theorem k_ifne_f {x t : Nat} (ho : P.1 y pc = o_ifne t) (c : x = 0) : zEv P r y pc ls (.int (nI x) :: st) H = zEv P r y (pc + 3) ls st H := zEv_go ho (by subst c; rfl)
theorem k_ifne_t {x t : Nat} (ho : P.1 y pc = o_ifne t) (hx : x < 2147483648) (c : x ≠ 0) : zEv P r y pc ls (.int (nI x) :: st) H = zEv P r y t ls st H := zEv_go ho (by unfold o_ifne; dsimp only; rw [if_neg (zi_ne0 hx c)])
theorem k_ifeqb_t {x : Bool} {t : Nat} (ho : P.1 y pc = o_ifeq t) (c : x = false) : zEv P r y pc ls (.int (nI x.toNat) :: st) H = zEv P r y t ls st H := k_ifeq_t ho (by rw [c]; rfl)
theorem k_ifeqb_f {x : Bool} {t : Nat} (ho : P.1 y pc = o_ifeq t) (c : x = true) : zEv P r y pc ls (.int (nI x.toNat) :: st) H = zEv P r y (pc + 3) ls st H := k_ifeq_f ho (by rw [c]; decide) (by rw [c]; decide)
theorem k_ifneb_f {x : Bool} {t : Nat} (ho : P.1 y pc = o_ifne t) (c : x = false) : zEv P r y pc ls (.int (nI x.toNat) :: st) H = zEv P r y (pc + 3) ls st H := k_ifne_f ho (by rw [c]; rfl)
theorem k_ifneb_t {x : Bool} {t : Nat} (ho : P.1 y pc = o_ifne t) (c : x = true) : zEv P r y pc ls (.int (nI x.toNat) :: st) H = zEv P r y t ls st H := k_ifne_t ho (by rw [c]; decide) (by rw [c]; decide)
theorem k_ifle_t {x t : Nat} (ho : P.1 y pc = o_ifle t) (c : x = 0) : zEv P r y pc ls (.int (nI x) :: st) H = zEv P r y t ls st H := zEv_go ho (by subst c; rfl)
theorem k_ifle_f {x t : Nat} (ho : P.1 y pc = o_ifle t) (hx : x < 2147483648) (c : x ≠ 0) : zEv P r y pc ls (.int (nI x) :: st) H = zEv P r y (pc + 3) ls st H := zEv_go ho (by unfold o_ifle; dsimp only; rw [if_neg (fun q => c (by have := (zi_le (b := 0) hx (by decide)).mp q; omega))])
theorem k_ifgt_t {x t : Nat} (ho : P.1 y pc = o_ifgt t) (hx : x < 2147483648) (c : x ≠ 0) : zEv P r y pc ls (.int (nI x) :: st) H = zEv P r y t ls st H := zEv_go ho (by unfold o_ifgt; dsimp only; rw [if_pos (zi_gt0 hx c)])
theorem k_ifgt_f {x t : Nat} (ho : P.1 y pc = o_ifgt t) (c : x = 0) : zEv P r y pc ls (.int (nI x) :: st) H = zEv P r y (pc + 3) ls st H := zEv_go ho (by subst c; rfl)
theorem k_iflt_f {x t : Nat} (ho : P.1 y pc = o_iflt t) (hx : x < 2147483648) : zEv P r y pc ls (.int (nI x) :: st) H = zEv P r y (pc + 3) ls st H := zEv_go ho (by unfold o_iflt; dsimp only; rw [if_neg (zi_nneg hx)])
theorem k_ifge_t {x t : Nat} (ho : P.1 y pc = o_ifge t) (hx : x < 2147483648) : zEv P r y pc ls (.int (nI x) :: st) H = zEv P r y t ls st H := zEv_go ho (by unfold o_ifge; dsimp only; rw [if_pos (Int32.not_lt.mp (zi_nneg hx))])
theorem k_icge_t {a b t : Nat} (ho : P.1 y pc = o_icge t) (ha : a < 2147483648) (hb : b < 2147483648) (c : b ≤ a) : zEv P r y pc ls (.int (nI b) :: .int (nI a) :: st) H = zEv P r y t ls st H := zEv_go ho (by unfold o_icge; dsimp only; rw [if_pos ((zi_le hb ha).mpr c)])
theorem k_icge_f {a b t : Nat} (ho : P.1 y pc = o_icge t) (ha : a < 2147483648) (hb : b < 2147483648) (c : a < b) : zEv P r y pc ls (.int (nI b) :: .int (nI a) :: st) H = zEv P r y (pc + 3) ls st H := zEv_go ho (by unfold o_icge; dsimp only; rw [if_neg (fun q => by have := (zi_le hb ha).mp q; omega)])
theorem k_iclt_t {a b t : Nat} (ho : P.1 y pc = o_iclt t) (ha : a < 2147483648) (hb : b < 2147483648) (c : a < b) : zEv P r y pc ls (.int (nI b) :: .int (nI a) :: st) H = zEv P r y t ls st H := zEv_go ho (by unfold o_iclt; dsimp only; rw [if_pos ((zi_lt ha hb).mpr c)])
theorem k_iclt_f {a b t : Nat} (ho : P.1 y pc = o_iclt t) (ha : a < 2147483648) (hb : b < 2147483648) (c : b ≤ a) : zEv P r y pc ls (.int (nI b) :: .int (nI a) :: st) H = zEv P r y (pc + 3) ls st H := zEv_go ho (by unfold o_iclt; dsimp only; rw [if_neg (fun q => by have := (zi_lt ha hb).mp q; omega)])
theorem k_icgt_t {a b t : Nat} (ho : P.1 y pc = o_icgt t) (ha : a < 2147483648) (hb : b < 2147483648) (c : b < a) : zEv P r y pc ls (.int (nI b) :: .int (nI a) :: st) H = zEv P r y t ls st H := zEv_go ho (by unfold o_icgt; dsimp only; rw [if_pos ((zi_lt hb ha).mpr c)])
theorem k_icgt_f {a b t : Nat} (ho : P.1 y pc = o_icgt t) (ha : a < 2147483648) (hb : b < 2147483648) (c : a ≤ b) : zEv P r y pc ls (.int (nI b) :: .int (nI a) :: st) H = zEv P r y (pc + 3) ls st H := zEv_go ho (by unfold o_icgt; dsimp only; rw [if_neg (fun q => by have := (zi_lt hb ha).mp q; omega)])
theorem k_icle_t {a b t : Nat} (ho : P.1 y pc = o_icle t) (ha : a < 2147483648) (hb : b < 2147483648) (c : a ≤ b) : zEv P r y pc ls (.int (nI b) :: .int (nI a) :: st) H = zEv P r y t ls st H := zEv_go ho (by unfold o_icle; dsimp only; rw [if_pos ((zi_le ha hb).mpr c)])
theorem k_icle_f {a b t : Nat} (ho : P.1 y pc = o_icle t) (ha : a < 2147483648) (hb : b < 2147483648) (c : b < a) : zEv P r y pc ls (.int (nI b) :: .int (nI a) :: st) H = zEv P r y (pc + 3) ls st H := zEv_go ho (by unfold o_icle; dsimp only; rw [if_neg (fun q => by have := (zi_le ha hb).mp q; omega)])
theorem k_iceq_t {a b t : Nat} (ho : P.1 y pc = o_iceq t) (c : a = b) : zEv P r y pc ls (.int (nI b) :: .int (nI a) :: st) H = zEv P r y t ls st H := zEv_go ho (by unfold o_iceq; dsimp only; rw [if_pos (congrArg nI c)])
theorem k_iceq_f {a b t : Nat} (ho : P.1 y pc = o_iceq t) (ha : a < 2147483648) (hb : b < 2147483648) (c : a ≠ b) : zEv P r y pc ls (.int (nI b) :: .int (nI a) :: st) H = zEv P r y (pc + 3) ls st H := zEv_go ho (by unfold o_iceq; dsimp only; rw [if_neg (fun q => c ((zi_inj ha hb).mp q))])
theorem k_icne_f {a b t : Nat} (ho : P.1 y pc = o_icne t) (c : a = b) : zEv P r y pc ls (.int (nI b) :: .int (nI a) :: st) H = zEv P r y (pc + 3) ls st H := zEv_go ho (by unfold o_icne; dsimp only; rw [if_pos (congrArg nI c)])
theorem k_icne_t {a b t : Nat} (ho : P.1 y pc = o_icne t) (ha : a < 2147483648) (hb : b < 2147483648) (c : a ≠ b) : zEv P r y pc ls (.int (nI b) :: .int (nI a) :: st) H = zEv P r y t ls st H := zEv_go ho (by unfold o_icne; dsimp only; rw [if_neg (fun q => c ((zi_inj ha hb).mp q))])
/-! the same over whole numbers of the machine -/
theorem k_r1 {x : Int32} {op : zOp} {t : Nat} (ho : P.1 y pc = op) (hc : op pc ls (.int x :: st) H = some (.inl (t, ls, st, H))) : zEv P r y pc ls (.int x :: st) H = zEv P r y t ls st H := zEv_go ho hc
theorem kr_ifeq_t {x : Int32} {t : Nat} (ho : P.1 y pc = o_ifeq t) (c : x = 0) : zEv P r y pc ls (.int x :: st) H = zEv P r y t ls st H := zEv_go ho (by unfold o_ifeq; dsimp only; rw [if_pos c])
theorem kr_ifeq_f {x : Int32} {t : Nat} (ho : P.1 y pc = o_ifeq t) (c : x ≠ 0) : zEv P r y pc ls (.int x :: st) H = zEv P r y (pc + 3) ls st H := zEv_go ho (by unfold o_ifeq; dsimp only; rw [if_neg c])
theorem kr_ifne_t {x : Int32} {t : Nat} (ho : P.1 y pc = o_ifne t) (c : x ≠ 0) : zEv P r y pc ls (.int x :: st) H = zEv P r y t ls st H := zEv_go ho (by unfold o_ifne; dsimp only; rw [if_neg c])
theorem kr_ifne_f {x : Int32} {t : Nat} (ho : P.1 y pc = o_ifne t) (c : x = 0) : zEv P r y pc ls (.int x :: st) H = zEv P r y (pc + 3) ls st H := zEv_go ho (by unfold o_ifne; dsimp only; rw [if_pos c])
theorem kr_iflt_t {x : Int32} {t : Nat} (ho : P.1 y pc = o_iflt t) (c : x < 0) : zEv P r y pc ls (.int x :: st) H = zEv P r y t ls st H := zEv_go ho (by unfold o_iflt; dsimp only; rw [if_pos c])
theorem kr_iflt_f {x : Int32} {t : Nat} (ho : P.1 y pc = o_iflt t) (c : ¬ x < 0) : zEv P r y pc ls (.int x :: st) H = zEv P r y (pc + 3) ls st H := zEv_go ho (by unfold o_iflt; dsimp only; rw [if_neg c])
theorem kr_ifge_t {x : Int32} {t : Nat} (ho : P.1 y pc = o_ifge t) (c : 0 ≤ x) : zEv P r y pc ls (.int x :: st) H = zEv P r y t ls st H := zEv_go ho (by unfold o_ifge; dsimp only; rw [if_pos c])
theorem kr_ifge_f {x : Int32} {t : Nat} (ho : P.1 y pc = o_ifge t) (c : ¬ 0 ≤ x) : zEv P r y pc ls (.int x :: st) H = zEv P r y (pc + 3) ls st H := zEv_go ho (by unfold o_ifge; dsimp only; rw [if_neg c])
theorem kr_ifgt_t {x : Int32} {t : Nat} (ho : P.1 y pc = o_ifgt t) (c : 0 < x) : zEv P r y pc ls (.int x :: st) H = zEv P r y t ls st H := zEv_go ho (by unfold o_ifgt; dsimp only; rw [if_pos c])
theorem kr_ifgt_f {x : Int32} {t : Nat} (ho : P.1 y pc = o_ifgt t) (c : ¬ 0 < x) : zEv P r y pc ls (.int x :: st) H = zEv P r y (pc + 3) ls st H := zEv_go ho (by unfold o_ifgt; dsimp only; rw [if_neg c])
theorem kr_ifle_t {x : Int32} {t : Nat} (ho : P.1 y pc = o_ifle t) (c : x ≤ 0) : zEv P r y pc ls (.int x :: st) H = zEv P r y t ls st H := zEv_go ho (by unfold o_ifle; dsimp only; rw [if_pos c])
theorem kr_ifle_f {x : Int32} {t : Nat} (ho : P.1 y pc = o_ifle t) (c : ¬ x ≤ 0) : zEv P r y pc ls (.int x :: st) H = zEv P r y (pc + 3) ls st H := zEv_go ho (by unfold o_ifle; dsimp only; rw [if_neg c])
theorem kr_icge_t {a b : Int32} {t : Nat} (ho : P.1 y pc = o_icge t) (c : b ≤ a) : zEv P r y pc ls (.int b :: .int a :: st) H = zEv P r y t ls st H := zEv_go ho (by unfold o_icge; dsimp only; rw [if_pos c])
theorem kr_icge_f {a b : Int32} {t : Nat} (ho : P.1 y pc = o_icge t) (c : ¬ b ≤ a) : zEv P r y pc ls (.int b :: .int a :: st) H = zEv P r y (pc + 3) ls st H := zEv_go ho (by unfold o_icge; dsimp only; rw [if_neg c])
theorem kr_iclt_t {a b : Int32} {t : Nat} (ho : P.1 y pc = o_iclt t) (c : a < b) : zEv P r y pc ls (.int b :: .int a :: st) H = zEv P r y t ls st H := zEv_go ho (by unfold o_iclt; dsimp only; rw [if_pos c])
theorem kr_iclt_f {a b : Int32} {t : Nat} (ho : P.1 y pc = o_iclt t) (c : ¬ a < b) : zEv P r y pc ls (.int b :: .int a :: st) H = zEv P r y (pc + 3) ls st H := zEv_go ho (by unfold o_iclt; dsimp only; rw [if_neg c])
theorem kr_icgt_t {a b : Int32} {t : Nat} (ho : P.1 y pc = o_icgt t) (c : b < a) : zEv P r y pc ls (.int b :: .int a :: st) H = zEv P r y t ls st H := zEv_go ho (by unfold o_icgt; dsimp only; rw [if_pos c])
theorem kr_icgt_f {a b : Int32} {t : Nat} (ho : P.1 y pc = o_icgt t) (c : ¬ b < a) : zEv P r y pc ls (.int b :: .int a :: st) H = zEv P r y (pc + 3) ls st H := zEv_go ho (by unfold o_icgt; dsimp only; rw [if_neg c])
theorem kr_icle_t {a b : Int32} {t : Nat} (ho : P.1 y pc = o_icle t) (c : a ≤ b) : zEv P r y pc ls (.int b :: .int a :: st) H = zEv P r y t ls st H := zEv_go ho (by unfold o_icle; dsimp only; rw [if_pos c])
theorem kr_icle_f {a b : Int32} {t : Nat} (ho : P.1 y pc = o_icle t) (c : ¬ a ≤ b) : zEv P r y pc ls (.int b :: .int a :: st) H = zEv P r y (pc + 3) ls st H := zEv_go ho (by unfold o_icle; dsimp only; rw [if_neg c])
theorem kr_iceq_t {a b : Int32} {t : Nat} (ho : P.1 y pc = o_iceq t) (c : a = b) : zEv P r y pc ls (.int b :: .int a :: st) H = zEv P r y t ls st H := zEv_go ho (by unfold o_iceq; dsimp only; rw [if_pos c])
theorem kr_iceq_f {a b : Int32} {t : Nat} (ho : P.1 y pc = o_iceq t) (c : a ≠ b) : zEv P r y pc ls (.int b :: .int a :: st) H = zEv P r y (pc + 3) ls st H := zEv_go ho (by unfold o_iceq; dsimp only; rw [if_neg c])
theorem kr_icne_t {a b : Int32} {t : Nat} (ho : P.1 y pc = o_icne t) (c : a ≠ b) : zEv P r y pc ls (.int b :: .int a :: st) H = zEv P r y t ls st H := zEv_go ho (by unfold o_icne; dsimp only; rw [if_neg c])
theorem kr_icne_f {a b : Int32} {t : Nat} (ho : P.1 y pc = o_icne t) (c : a = b) : zEv P r y pc ls (.int b :: .int a :: st) H = zEv P r y (pc + 3) ls st H := zEv_go ho (by unfold o_icne; dsimp only; rw [if_pos c])
/-! fields and arrays that stand from the start -/
theorem k_gfI {g a t : Nat} (ho : P.1 y pc = o_gfI t g) (ht : zT h a = t) (ha : 100 ≤ a ∧ a < 154) : zEv P r y pc ls (.ref a :: st) (zMH h m) = zEv P r y (pc + 3) ls (.int (nI (m g a 0)) :: st) (zMH h m) := by
  rw [zEv_go ho (show o_gfI t g pc ls (.ref a :: st) (zMH h m) = some (.inl (pc + 3, ls, .int (zI (zMH h m) g a 0) :: st, zMH h m)) from if_pos ht), zMH_I ha]
theorem k_gfIv {g a t x : Nat} (ho : P.1 y pc = o_gfI t g) (ht : zT h a = t) (ha : 100 ≤ a ∧ a < 154) (hv : m g a 0 = x) : zEv P r y pc ls (.ref a :: st) (zMH h m) = zEv P r y (pc + 3) ls (.int (nI x) :: st) (zMH h m) := by
  rw [← hv]; exact k_gfI ho ht ha
theorem k_gfId {g a t : Nat} {x : Int32} (ho : P.1 y pc = o_gfI t g) (ht : zT h a = t) (ha : 154 ≤ a) (hv : zI h g a 0 = x) : zEv P r y pc ls (.ref a :: st) (zMH h m) = zEv P r y (pc + 3) ls (.int x :: st) (zMH h m) := by
  rw [zEv_go ho (show o_gfI t g pc ls (.ref a :: st) (zMH h m) = some (.inl (pc + 3, ls, .int (zI (zMH h m) g a 0) :: st, zMH h m)) from if_pos ht), zMH_D ha, hv]
theorem k_gfR {g a t x : Nat} (ho : P.1 y pc = o_gfR t g) (ht : zT H a = t) (hv : zR H g a 0 = some x) : zEv P r y pc ls (.ref a :: st) H = zEv P r y (pc + 3) ls (.ref x :: st) H := by
  rw [zEv_go ho (show o_gfR t g pc ls (.ref a :: st) H = some (.inl (pc + 3, ls, va_rf (zR H g a 0) :: st, H)) from if_pos ht), hv]; rfl
theorem k_gfRn {g a t : Nat} (ho : P.1 y pc = o_gfR t g) (ht : zT H a = t) (hv : zR H g a 0 = none) : zEv P r y pc ls (.ref a :: st) H = zEv P r y (pc + 3) ls (.null :: st) H := by
  rw [zEv_go ho (show o_gfR t g pc ls (.ref a :: st) H = some (.inl (pc + 3, ls, va_rf (zR H g a 0) :: st, H)) from if_pos ht), hv]; rfl
theorem k_gfL {g a t : Nat} {x : Int64} (ho : P.1 y pc = o_gfL t g) (ht : zT H a = t) (hv : zL H g a 0 = x) : zEv P r y pc ls (.ref a :: st) H = zEv P r y (pc + 3) ls (.long x :: st) H := by
  rw [zEv_go ho (show o_gfL t g pc ls (.ref a :: st) H = some (.inl (pc + 3, ls, .long (zL H g a 0) :: st, H)) from if_pos ht), hv]
theorem k_pfI {g a t x : Nat} {nr : Int32 → Int32} (ho : P.1 y pc = o_pfI t g nr) (ht : zT h a = t) (ha : 100 ≤ a ∧ a < 154) (hn : nr (nI x) = nI x) : zEv P r y pc ls (.int (nI x) :: .ref a :: st) (zMH h m) = zEv P r y (pc + 3) ls st (zMH h (u3 m g a 0 x)) := by
  rw [zEv_go ho (show o_pfI t g nr pc ls (.int (nI x) :: .ref a :: st) (zMH h m) = some (.inl (pc + 3, ls, st, zsI (zMH h m) g a 0 (nI x))) from if_pos ⟨ht, hn⟩), zMH_s ha]
theorem k_pfIv {g a t n : Nat} {x : Int32} {nr : Int32 → Int32} (ho : P.1 y pc = o_pfI t g nr) (ht : zT h a = t) (ha : 100 ≤ a ∧ a < 154) (hv : x = nI n) (hn : nr (nI n) = nI n) : zEv P r y pc ls (.int x :: .ref a :: st) (zMH h m) = zEv P r y (pc + 3) ls st (zMH h (u3 m g a 0 n)) := by
  subst hv; exact k_pfI ho ht ha hn
theorem k_pfId {g a t : Nat} {x : Int32} {nr : Int32 → Int32} (ho : P.1 y pc = o_pfI t g nr) (ht : zT h a = t) (ha : 154 ≤ a) (hn : nr x = x) : zEv P r y pc ls (.int x :: .ref a :: st) (zMH h m) = zEv P r y (pc + 3) ls st (zMH (zsI h g a 0 x) m) := by
  rw [zEv_go ho (show o_pfI t g nr pc ls (.int x :: .ref a :: st) (zMH h m) = some (.inl (pc + 3, ls, st, zsI (zMH h m) g a 0 x)) from if_pos ⟨ht, hn⟩), zMH_d ha]
theorem k_pfR {g a b t : Nat} (ho : P.1 y pc = o_pfR t g) (ht : zT h a = t) : zEv P r y pc ls (.ref b :: .ref a :: st) (zMH h m) = zEv P r y (pc + 3) ls st (zMH (zsR h g a 0 (some b)) m) := zEv_go ho (if_pos ht)
theorem k_pfRn {g a t : Nat} (ho : P.1 y pc = o_pfR t g) (ht : zT h a = t) : zEv P r y pc ls (.null :: .ref a :: st) (zMH h m) = zEv P r y (pc + 3) ls st (zMH (zsR h g a 0 none) m) := zEv_go ho (if_pos ht)
theorem k_pfL {g a t : Nat} {x : Int64} (ho : P.1 y pc = o_pfL t g) (ht : zT h a = t) : zEv P r y pc ls (.long x :: .ref a :: st) (zMH h m) = zEv P r y (pc + 3) ls st (zMH (zsL h g a 0 x) m) := zEv_go ho (if_pos ht)
theorem k_xald {a t i n : Nat} (ho : P.1 y pc = o_xald t) (ht : zT h a = t) (he : zE h a = n) (hn : n ≤ 65536) (ha : 100 ≤ a ∧ a < 154) (hi : i < n) : zEv P r y pc ls (.int (nI i) :: .ref a :: st) (zMH h m) = zEv P r y (pc + 1) ls (.int (nI (m 0 a i)) :: st) (zMH h m) := by
  have e : (nI i).toNatClampNeg = i := zi_clamp (by omega)
  rw [zEv_go ho (show o_xald t pc ls (.int (nI i) :: .ref a :: st) (zMH h m) = some (.inl (pc + 1, ls, .int (zI (zMH h m) 0 a (nI i).toNatClampNeg) :: st, zMH h m)) from if_pos ⟨ht, zi_nneg (by omega), by rw [e]; show i < zE h a; omega⟩), e, zMH_I ha]
theorem k_xaldv {a t i n x : Nat} (ho : P.1 y pc = o_xald t) (ht : zT h a = t) (he : zE h a = n) (hn : n ≤ 65536) (ha : 100 ≤ a ∧ a < 154) (hi : i < n) (hv : m 0 a i = x) : zEv P r y pc ls (.int (nI i) :: .ref a :: st) (zMH h m) = zEv P r y (pc + 1) ls (.int (nI x) :: st) (zMH h m) := by
  rw [← hv]; exact k_xald ho ht he hn ha hi
theorem k_xald_d {a t i : Nat} {x : Int32} (ho : P.1 y pc = o_xald t) (ht : zT h a = t) (hi : i < zE h a) (hn : i ≤ 65536) (ha : 154 ≤ a) (hv : zI h 0 a i = x) : zEv P r y pc ls (.int (nI i) :: .ref a :: st) (zMH h m) = zEv P r y (pc + 1) ls (.int x :: st) (zMH h m) := by
  have e : (nI i).toNatClampNeg = i := zi_clamp (by omega)
  rw [zEv_go ho (show o_xald t pc ls (.int (nI i) :: .ref a :: st) (zMH h m) = some (.inl (pc + 1, ls, .int (zI (zMH h m) 0 a (nI i).toNatClampNeg) :: st, zMH h m)) from if_pos ⟨ht, zi_nneg (by omega), by rw [e]; exact hi⟩), e, zMH_D ha, hv]
theorem k_xast {a t i n x : Nat} {nr : Int32 → Int32} (ho : P.1 y pc = o_xast t nr) (ht : zT h a = t) (he : zE h a = n) (hn : n ≤ 65536) (ha : 100 ≤ a ∧ a < 154) (hi : i < n) (hr : nr (nI x) = nI x) : zEv P r y pc ls (.int (nI x) :: .int (nI i) :: .ref a :: st) (zMH h m) = zEv P r y (pc + 1) ls st (zMH h (u3 m 0 a i x)) := by
  have e : (nI i).toNatClampNeg = i := zi_clamp (by omega)
  rw [zEv_go ho (show o_xast t nr pc ls (.int (nI x) :: .int (nI i) :: .ref a :: st) (zMH h m) = some (.inl (pc + 1, ls, st, zsI (zMH h m) 0 a (nI i).toNatClampNeg (nr (nI x)))) from if_pos ⟨ht, zi_nneg (by omega), by rw [e]; show i < zE h a; omega⟩), e, hr, zMH_s ha]
theorem k_xastv {a t i n k : Nat} {x : Int32} {nr : Int32 → Int32} (ho : P.1 y pc = o_xast t nr) (ht : zT h a = t) (he : zE h a = n) (hn : n ≤ 65536) (ha : 100 ≤ a ∧ a < 154) (hi : i < n) (hv : x = nI k) (hr : nr (nI k) = nI k) : zEv P r y pc ls (.int x :: .int (nI i) :: .ref a :: st) (zMH h m) = zEv P r y (pc + 1) ls st (zMH h (u3 m 0 a i k)) := by
  subst hv; exact k_xast ho ht he hn ha hi hr
theorem k_xast_d {a t i : Nat} {x : Int32} {nr : Int32 → Int32} (ho : P.1 y pc = o_xast t nr) (ht : zT h a = t) (hi : i < zE h a) (hn : i ≤ 65536) (ha : 154 ≤ a) : zEv P r y pc ls (.int x :: .int (nI i) :: .ref a :: st) (zMH h m) = zEv P r y (pc + 1) ls st (zMH (zsI h 0 a i (nr x)) m) := by
  have e : (nI i).toNatClampNeg = i := zi_clamp (by omega)
  rw [zEv_go ho (show o_xast t nr pc ls (.int x :: .int (nI i) :: .ref a :: st) (zMH h m) = some (.inl (pc + 1, ls, st, zsI (zMH h m) 0 a (nI i).toNatClampNeg (nr x))) from if_pos ⟨ht, zi_nneg (by omega), by rw [e]; exact hi⟩), e, zMH_d ha]
theorem k_aald {a t i n x : Nat} (ho : P.1 y pc = o_aald t) (ht : zT H a = t) (he : zE H a = n) (hn : n ≤ 65536) (hi : i < n) (hv : zR H 0 a i = some x) : zEv P r y pc ls (.int (nI i) :: .ref a :: st) H = zEv P r y (pc + 1) ls (.ref x :: st) H := by
  have e : (nI i).toNatClampNeg = i := zi_clamp (by omega)
  rw [zEv_go ho (show o_aald t pc ls (.int (nI i) :: .ref a :: st) H = some (.inl (pc + 1, ls, va_rf (zR H 0 a (nI i).toNatClampNeg) :: st, H)) from if_pos ⟨ht, zi_nneg (by omega), by rw [e]; omega⟩), e, hv]; rfl
theorem k_aast {a b t u i n : Nat} (ho : P.1 y pc = o_aast t u) (ht : zT h a = t) (he : zE h a = n) (hn : n ≤ 65536) (hi : i < n) (hu : zT h b = u) : zEv P r y pc ls (.ref b :: .int (nI i) :: .ref a :: st) (zMH h m) = zEv P r y (pc + 1) ls st (zMH (zsR h 0 a i (some b)) m) := by
  have e : (nI i).toNatClampNeg = i := zi_clamp (by omega)
  rw [zEv_go ho (show o_aast t u pc ls (.ref b :: .int (nI i) :: .ref a :: st) (zMH h m) = some (.inl (pc + 1, ls, st, zsR (zMH h m) 0 a (nI i).toNatClampNeg (some b))) from if_pos ⟨ht, zi_nneg (by omega), by rw [e]; show i < zE h a; omega, hu⟩), e]; rfl
/-! ends, calls -/
theorem k_iret {x : Int32} {nr : Int32 → Int32} (ho : P.1 y pc = o_iret nr) (hn : nr x = x) : zEv P r y pc ls [.int x] H = some (.inl (some (.int x)), H) := zEv_fin ho (if_pos hn)
theorem k_cs {y' n nl k : Nat} {as rest : List Value} {v : Option Value} {h2 : zH} (ho : P.1 y pc = o_cs y' n nl) (he : o_cs y' n nl pc ls st H = some (.inr (.inr (y', as, (pc + 3, ls, rest, H))))) (hr : P.2.1 y' as = k) (hk : k < r) (hv : zCl P y' as H = some (.inl v, h2)) : zEv P r y pc ls st H = zEv P r y (pc + 3) ls (v.toList ++ rest) h2 := zEv_ret ho he (by rw [hr]; exact hk) hv
theorem k_cv {y' n nl u w k a : Nat} {as rest : List Value} {v : Option Value} {h2 : zH} (ho : P.1 y pc = o_cv y' n nl u w) (hg : st[n]? = some (.ref a)) (hb : (Nat.ble (st.length - (n + 1)) 4 && Nat.ble (lg_sl (st.take (n + 1)).reverse).length nl) = true) (ht : zT H a = u ∨ zT H a = w) (ha : (st.take (n + 1)).reverse = as) (hd : st.drop (n + 1) = rest) (hr : P.2.1 y' as = k) (hk : k < r) (hv : zCl P y' as H = some (.inl v, h2)) : zEv P r y pc ls st H = zEv P r y (pc + 3) ls (v.toList ++ rest) h2 := by
  refine zEv_ret ho (as := as) (st' := rest) ?_ (by rw [hr]; exact hk) hv
  unfold o_cv
  rw [hb]
  dsimp only
  rw [hg]
  dsimp only
  rw [if_pos ht, ha, hd]
end
def zfTl : List Nat := [9, 32, 3, 31, 3, 31, 3, 31, 3, 31, 33, 7, 22, 6, 22, 8, 31, 20, 7, 22, 6, 22, 8, 31, 20, 7, 22, 6, 22, 8, 31, 20, 10, 23, 20, 20, 20, 20, 20, 20, 20, 23, 20, 23, 20, 20, 20, 20, 20, 20, 20, 20, 20, 23, 21]
def zfEl : List Nat := [0, 4, 0, 10, 0, 10, 0, 10, 0, 10, 3, 0, 48, 0, 1024, 0, 40, 40, 0, 48, 0, 1024, 0, 40, 40, 0, 48, 0, 1024, 0, 40, 40, 0, 4, 4, 4, 4, 40, 40, 40, 240, 3, 3, 3, 3, 120, 120, 144, 3, 6144, 3, 12, 12, 12, 1]
def zfT (a : Nat) : Nat := zfTl.getD (a - 100) 0
def zfE (a : Nat) : Nat := zfEl.getD (a - 100) 0
/-- references that never change: field, object, place, what is there -/
def zfRl : List (Nat × Nat × Nat × Nat) := [(0, 101, 0, 102), (0, 101, 1, 104), (0, 101, 2, 106), (0, 101, 3, 108), (0, 110, 0, 111), (0, 110, 1, 118), (0, 110, 2, 125), (150, 102, 0, 103), (150, 104, 0, 105), (150, 106, 0, 107), (150, 108, 0, 109), (300, 113, 0, 114), (300, 120, 0, 121), (300, 127, 0, 128), (350, 111, 0, 112), (350, 118, 0, 119), (350, 125, 0, 126), (351, 111, 0, 113), (351, 118, 0, 120), (351, 125, 0, 127), (352, 111, 0, 115), (352, 118, 0, 122), (352, 125, 0, 129), (400, 115, 0, 116), (400, 122, 0, 123), (400, 129, 0, 130), (401, 115, 0, 117), (401, 122, 0, 124), (401, 129, 0, 131), (450, 100, 0, 101), (451, 100, 0, 110), (501, 132, 0, 133), (502, 132, 0, 134), (503, 132, 0, 135), (504, 132, 0, 136), (505, 132, 0, 137), (506, 132, 0, 138), (507, 132, 0, 139), (508, 132, 0, 140), (510, 132, 0, 141), (511, 132, 0, 142), (512, 132, 0, 143), (513, 132, 0, 144), (514, 132, 0, 145), (515, 132, 0, 146), (516, 132, 0, 147), (517, 132, 0, 148), (518, 132, 0, 149), (519, 132, 0, 150), (536, 132, 0, 151), (537, 132, 0, 152), (538, 132, 0, 153)]
def zFx (h : zH) : Prop := 155 ≤ zN h ∧ (∀ a, 100 ≤ a → a < 155 → zT h a = zfT a ∧ zE h a = zfE a) ∧ (∀ q ∈ zfRl, zR h q.1 q.2.1 q.2.2.1 = some q.2.2.2) ∧ (∀ a, a < 100 → zT h a = zcT a)
theorem xT_100 {h : zH} (hx : zFx h) : zT h 100 = 9 := (hx.2.1 100 (by decide) (by decide)).1
theorem xT_101 {h : zH} (hx : zFx h) : zT h 101 = 32 := (hx.2.1 101 (by decide) (by decide)).1
theorem xE_101 {h : zH} (hx : zFx h) : zE h 101 = 4 := (hx.2.1 101 (by decide) (by decide)).2
theorem xT_102 {h : zH} (hx : zFx h) : zT h 102 = 3 := (hx.2.1 102 (by decide) (by decide)).1
theorem xT_103 {h : zH} (hx : zFx h) : zT h 103 = 31 := (hx.2.1 103 (by decide) (by decide)).1
theorem xE_103 {h : zH} (hx : zFx h) : zE h 103 = 10 := (hx.2.1 103 (by decide) (by decide)).2
theorem xT_104 {h : zH} (hx : zFx h) : zT h 104 = 3 := (hx.2.1 104 (by decide) (by decide)).1
theorem xT_105 {h : zH} (hx : zFx h) : zT h 105 = 31 := (hx.2.1 105 (by decide) (by decide)).1
theorem xE_105 {h : zH} (hx : zFx h) : zE h 105 = 10 := (hx.2.1 105 (by decide) (by decide)).2
theorem xT_106 {h : zH} (hx : zFx h) : zT h 106 = 3 := (hx.2.1 106 (by decide) (by decide)).1
theorem xT_107 {h : zH} (hx : zFx h) : zT h 107 = 31 := (hx.2.1 107 (by decide) (by decide)).1
theorem xE_107 {h : zH} (hx : zFx h) : zE h 107 = 10 := (hx.2.1 107 (by decide) (by decide)).2
theorem xT_108 {h : zH} (hx : zFx h) : zT h 108 = 3 := (hx.2.1 108 (by decide) (by decide)).1
theorem xT_109 {h : zH} (hx : zFx h) : zT h 109 = 31 := (hx.2.1 109 (by decide) (by decide)).1
theorem xE_109 {h : zH} (hx : zFx h) : zE h 109 = 10 := (hx.2.1 109 (by decide) (by decide)).2
theorem xT_110 {h : zH} (hx : zFx h) : zT h 110 = 33 := (hx.2.1 110 (by decide) (by decide)).1
theorem xE_110 {h : zH} (hx : zFx h) : zE h 110 = 3 := (hx.2.1 110 (by decide) (by decide)).2
theorem xT_111 {h : zH} (hx : zFx h) : zT h 111 = 7 := (hx.2.1 111 (by decide) (by decide)).1
theorem xT_112 {h : zH} (hx : zFx h) : zT h 112 = 22 := (hx.2.1 112 (by decide) (by decide)).1
theorem xE_112 {h : zH} (hx : zFx h) : zE h 112 = 48 := (hx.2.1 112 (by decide) (by decide)).2
theorem xT_113 {h : zH} (hx : zFx h) : zT h 113 = 6 := (hx.2.1 113 (by decide) (by decide)).1
theorem xT_114 {h : zH} (hx : zFx h) : zT h 114 = 22 := (hx.2.1 114 (by decide) (by decide)).1
theorem xE_114 {h : zH} (hx : zFx h) : zE h 114 = 1024 := (hx.2.1 114 (by decide) (by decide)).2
theorem xT_115 {h : zH} (hx : zFx h) : zT h 115 = 8 := (hx.2.1 115 (by decide) (by decide)).1
theorem xT_116 {h : zH} (hx : zFx h) : zT h 116 = 31 := (hx.2.1 116 (by decide) (by decide)).1
theorem xE_116 {h : zH} (hx : zFx h) : zE h 116 = 40 := (hx.2.1 116 (by decide) (by decide)).2
theorem xT_117 {h : zH} (hx : zFx h) : zT h 117 = 20 := (hx.2.1 117 (by decide) (by decide)).1
theorem xE_117 {h : zH} (hx : zFx h) : zE h 117 = 40 := (hx.2.1 117 (by decide) (by decide)).2
theorem xT_118 {h : zH} (hx : zFx h) : zT h 118 = 7 := (hx.2.1 118 (by decide) (by decide)).1
theorem xT_119 {h : zH} (hx : zFx h) : zT h 119 = 22 := (hx.2.1 119 (by decide) (by decide)).1
theorem xE_119 {h : zH} (hx : zFx h) : zE h 119 = 48 := (hx.2.1 119 (by decide) (by decide)).2
theorem xT_120 {h : zH} (hx : zFx h) : zT h 120 = 6 := (hx.2.1 120 (by decide) (by decide)).1
theorem xT_121 {h : zH} (hx : zFx h) : zT h 121 = 22 := (hx.2.1 121 (by decide) (by decide)).1
theorem xE_121 {h : zH} (hx : zFx h) : zE h 121 = 1024 := (hx.2.1 121 (by decide) (by decide)).2
theorem xT_122 {h : zH} (hx : zFx h) : zT h 122 = 8 := (hx.2.1 122 (by decide) (by decide)).1
theorem xT_123 {h : zH} (hx : zFx h) : zT h 123 = 31 := (hx.2.1 123 (by decide) (by decide)).1
theorem xE_123 {h : zH} (hx : zFx h) : zE h 123 = 40 := (hx.2.1 123 (by decide) (by decide)).2
theorem xT_124 {h : zH} (hx : zFx h) : zT h 124 = 20 := (hx.2.1 124 (by decide) (by decide)).1
theorem xE_124 {h : zH} (hx : zFx h) : zE h 124 = 40 := (hx.2.1 124 (by decide) (by decide)).2
theorem xT_125 {h : zH} (hx : zFx h) : zT h 125 = 7 := (hx.2.1 125 (by decide) (by decide)).1
theorem xT_126 {h : zH} (hx : zFx h) : zT h 126 = 22 := (hx.2.1 126 (by decide) (by decide)).1
theorem xE_126 {h : zH} (hx : zFx h) : zE h 126 = 48 := (hx.2.1 126 (by decide) (by decide)).2
theorem xT_127 {h : zH} (hx : zFx h) : zT h 127 = 6 := (hx.2.1 127 (by decide) (by decide)).1
theorem xT_128 {h : zH} (hx : zFx h) : zT h 128 = 22 := (hx.2.1 128 (by decide) (by decide)).1
theorem xE_128 {h : zH} (hx : zFx h) : zE h 128 = 1024 := (hx.2.1 128 (by decide) (by decide)).2
theorem xT_129 {h : zH} (hx : zFx h) : zT h 129 = 8 := (hx.2.1 129 (by decide) (by decide)).1
theorem xT_130 {h : zH} (hx : zFx h) : zT h 130 = 31 := (hx.2.1 130 (by decide) (by decide)).1
theorem xE_130 {h : zH} (hx : zFx h) : zE h 130 = 40 := (hx.2.1 130 (by decide) (by decide)).2
theorem xT_131 {h : zH} (hx : zFx h) : zT h 131 = 20 := (hx.2.1 131 (by decide) (by decide)).1
theorem xE_131 {h : zH} (hx : zFx h) : zE h 131 = 40 := (hx.2.1 131 (by decide) (by decide)).2
theorem xT_132 {h : zH} (hx : zFx h) : zT h 132 = 10 := (hx.2.1 132 (by decide) (by decide)).1
theorem xT_133 {h : zH} (hx : zFx h) : zT h 133 = 23 := (hx.2.1 133 (by decide) (by decide)).1
theorem xE_133 {h : zH} (hx : zFx h) : zE h 133 = 4 := (hx.2.1 133 (by decide) (by decide)).2
theorem xT_134 {h : zH} (hx : zFx h) : zT h 134 = 20 := (hx.2.1 134 (by decide) (by decide)).1
theorem xE_134 {h : zH} (hx : zFx h) : zE h 134 = 4 := (hx.2.1 134 (by decide) (by decide)).2
theorem xT_135 {h : zH} (hx : zFx h) : zT h 135 = 20 := (hx.2.1 135 (by decide) (by decide)).1
theorem xE_135 {h : zH} (hx : zFx h) : zE h 135 = 4 := (hx.2.1 135 (by decide) (by decide)).2
theorem xT_136 {h : zH} (hx : zFx h) : zT h 136 = 20 := (hx.2.1 136 (by decide) (by decide)).1
theorem xE_136 {h : zH} (hx : zFx h) : zE h 136 = 4 := (hx.2.1 136 (by decide) (by decide)).2
theorem xT_137 {h : zH} (hx : zFx h) : zT h 137 = 20 := (hx.2.1 137 (by decide) (by decide)).1
theorem xE_137 {h : zH} (hx : zFx h) : zE h 137 = 40 := (hx.2.1 137 (by decide) (by decide)).2
theorem xT_138 {h : zH} (hx : zFx h) : zT h 138 = 20 := (hx.2.1 138 (by decide) (by decide)).1
theorem xE_138 {h : zH} (hx : zFx h) : zE h 138 = 40 := (hx.2.1 138 (by decide) (by decide)).2
theorem xT_139 {h : zH} (hx : zFx h) : zT h 139 = 20 := (hx.2.1 139 (by decide) (by decide)).1
theorem xE_139 {h : zH} (hx : zFx h) : zE h 139 = 40 := (hx.2.1 139 (by decide) (by decide)).2
theorem xT_140 {h : zH} (hx : zFx h) : zT h 140 = 20 := (hx.2.1 140 (by decide) (by decide)).1
theorem xE_140 {h : zH} (hx : zFx h) : zE h 140 = 240 := (hx.2.1 140 (by decide) (by decide)).2
theorem xT_141 {h : zH} (hx : zFx h) : zT h 141 = 23 := (hx.2.1 141 (by decide) (by decide)).1
theorem xE_141 {h : zH} (hx : zFx h) : zE h 141 = 3 := (hx.2.1 141 (by decide) (by decide)).2
theorem xT_142 {h : zH} (hx : zFx h) : zT h 142 = 20 := (hx.2.1 142 (by decide) (by decide)).1
theorem xE_142 {h : zH} (hx : zFx h) : zE h 142 = 3 := (hx.2.1 142 (by decide) (by decide)).2
theorem xT_143 {h : zH} (hx : zFx h) : zT h 143 = 23 := (hx.2.1 143 (by decide) (by decide)).1
theorem xE_143 {h : zH} (hx : zFx h) : zE h 143 = 3 := (hx.2.1 143 (by decide) (by decide)).2
theorem xT_144 {h : zH} (hx : zFx h) : zT h 144 = 20 := (hx.2.1 144 (by decide) (by decide)).1
theorem xE_144 {h : zH} (hx : zFx h) : zE h 144 = 3 := (hx.2.1 144 (by decide) (by decide)).2
theorem xT_145 {h : zH} (hx : zFx h) : zT h 145 = 20 := (hx.2.1 145 (by decide) (by decide)).1
theorem xE_145 {h : zH} (hx : zFx h) : zE h 145 = 120 := (hx.2.1 145 (by decide) (by decide)).2
theorem xT_146 {h : zH} (hx : zFx h) : zT h 146 = 20 := (hx.2.1 146 (by decide) (by decide)).1
theorem xE_146 {h : zH} (hx : zFx h) : zE h 146 = 120 := (hx.2.1 146 (by decide) (by decide)).2
theorem xT_147 {h : zH} (hx : zFx h) : zT h 147 = 20 := (hx.2.1 147 (by decide) (by decide)).1
theorem xE_147 {h : zH} (hx : zFx h) : zE h 147 = 144 := (hx.2.1 147 (by decide) (by decide)).2
theorem xT_148 {h : zH} (hx : zFx h) : zT h 148 = 20 := (hx.2.1 148 (by decide) (by decide)).1
theorem xE_148 {h : zH} (hx : zFx h) : zE h 148 = 3 := (hx.2.1 148 (by decide) (by decide)).2
theorem xT_149 {h : zH} (hx : zFx h) : zT h 149 = 20 := (hx.2.1 149 (by decide) (by decide)).1
theorem xE_149 {h : zH} (hx : zFx h) : zE h 149 = 6144 := (hx.2.1 149 (by decide) (by decide)).2
theorem xT_150 {h : zH} (hx : zFx h) : zT h 150 = 20 := (hx.2.1 150 (by decide) (by decide)).1
theorem xE_150 {h : zH} (hx : zFx h) : zE h 150 = 3 := (hx.2.1 150 (by decide) (by decide)).2
theorem xT_151 {h : zH} (hx : zFx h) : zT h 151 = 20 := (hx.2.1 151 (by decide) (by decide)).1
theorem xE_151 {h : zH} (hx : zFx h) : zE h 151 = 12 := (hx.2.1 151 (by decide) (by decide)).2
theorem xT_152 {h : zH} (hx : zFx h) : zT h 152 = 20 := (hx.2.1 152 (by decide) (by decide)).1
theorem xE_152 {h : zH} (hx : zFx h) : zE h 152 = 12 := (hx.2.1 152 (by decide) (by decide)).2
theorem xT_153 {h : zH} (hx : zFx h) : zT h 153 = 23 := (hx.2.1 153 (by decide) (by decide)).1
theorem xE_153 {h : zH} (hx : zFx h) : zE h 153 = 12 := (hx.2.1 153 (by decide) (by decide)).2
theorem xT_154 {h : zH} (hx : zFx h) : zT h 154 = 21 := (hx.2.1 154 (by decide) (by decide)).1
theorem xE_154 {h : zH} (hx : zFx h) : zE h 154 = 1 := (hx.2.1 154 (by decide) (by decide)).2
theorem xR_0_101_0 {h : zH} (hx : zFx h) : zR h 0 101 0 = some 102 := hx.2.2.1 (0, 101, 0, 102) (List.mem_of_getElem? (i := 0) rfl)
theorem xR_0_101_1 {h : zH} (hx : zFx h) : zR h 0 101 1 = some 104 := hx.2.2.1 (0, 101, 1, 104) (List.mem_of_getElem? (i := 1) rfl)
theorem xR_0_101_2 {h : zH} (hx : zFx h) : zR h 0 101 2 = some 106 := hx.2.2.1 (0, 101, 2, 106) (List.mem_of_getElem? (i := 2) rfl)
theorem xR_0_101_3 {h : zH} (hx : zFx h) : zR h 0 101 3 = some 108 := hx.2.2.1 (0, 101, 3, 108) (List.mem_of_getElem? (i := 3) rfl)
theorem xR_0_110_0 {h : zH} (hx : zFx h) : zR h 0 110 0 = some 111 := hx.2.2.1 (0, 110, 0, 111) (List.mem_of_getElem? (i := 4) rfl)
theorem xR_0_110_1 {h : zH} (hx : zFx h) : zR h 0 110 1 = some 118 := hx.2.2.1 (0, 110, 1, 118) (List.mem_of_getElem? (i := 5) rfl)
theorem xR_0_110_2 {h : zH} (hx : zFx h) : zR h 0 110 2 = some 125 := hx.2.2.1 (0, 110, 2, 125) (List.mem_of_getElem? (i := 6) rfl)
theorem xR_150_102_0 {h : zH} (hx : zFx h) : zR h 150 102 0 = some 103 := hx.2.2.1 (150, 102, 0, 103) (List.mem_of_getElem? (i := 7) rfl)
theorem xR_150_104_0 {h : zH} (hx : zFx h) : zR h 150 104 0 = some 105 := hx.2.2.1 (150, 104, 0, 105) (List.mem_of_getElem? (i := 8) rfl)
theorem xR_150_106_0 {h : zH} (hx : zFx h) : zR h 150 106 0 = some 107 := hx.2.2.1 (150, 106, 0, 107) (List.mem_of_getElem? (i := 9) rfl)
theorem xR_150_108_0 {h : zH} (hx : zFx h) : zR h 150 108 0 = some 109 := hx.2.2.1 (150, 108, 0, 109) (List.mem_of_getElem? (i := 10) rfl)
theorem xR_300_113_0 {h : zH} (hx : zFx h) : zR h 300 113 0 = some 114 := hx.2.2.1 (300, 113, 0, 114) (List.mem_of_getElem? (i := 11) rfl)
theorem xR_300_120_0 {h : zH} (hx : zFx h) : zR h 300 120 0 = some 121 := hx.2.2.1 (300, 120, 0, 121) (List.mem_of_getElem? (i := 12) rfl)
theorem xR_300_127_0 {h : zH} (hx : zFx h) : zR h 300 127 0 = some 128 := hx.2.2.1 (300, 127, 0, 128) (List.mem_of_getElem? (i := 13) rfl)
theorem xR_350_111_0 {h : zH} (hx : zFx h) : zR h 350 111 0 = some 112 := hx.2.2.1 (350, 111, 0, 112) (List.mem_of_getElem? (i := 14) rfl)
theorem xR_350_118_0 {h : zH} (hx : zFx h) : zR h 350 118 0 = some 119 := hx.2.2.1 (350, 118, 0, 119) (List.mem_of_getElem? (i := 15) rfl)
theorem xR_350_125_0 {h : zH} (hx : zFx h) : zR h 350 125 0 = some 126 := hx.2.2.1 (350, 125, 0, 126) (List.mem_of_getElem? (i := 16) rfl)
theorem xR_351_111_0 {h : zH} (hx : zFx h) : zR h 351 111 0 = some 113 := hx.2.2.1 (351, 111, 0, 113) (List.mem_of_getElem? (i := 17) rfl)
theorem xR_351_118_0 {h : zH} (hx : zFx h) : zR h 351 118 0 = some 120 := hx.2.2.1 (351, 118, 0, 120) (List.mem_of_getElem? (i := 18) rfl)
theorem xR_351_125_0 {h : zH} (hx : zFx h) : zR h 351 125 0 = some 127 := hx.2.2.1 (351, 125, 0, 127) (List.mem_of_getElem? (i := 19) rfl)
theorem xR_352_111_0 {h : zH} (hx : zFx h) : zR h 352 111 0 = some 115 := hx.2.2.1 (352, 111, 0, 115) (List.mem_of_getElem? (i := 20) rfl)
theorem xR_352_118_0 {h : zH} (hx : zFx h) : zR h 352 118 0 = some 122 := hx.2.2.1 (352, 118, 0, 122) (List.mem_of_getElem? (i := 21) rfl)
theorem xR_352_125_0 {h : zH} (hx : zFx h) : zR h 352 125 0 = some 129 := hx.2.2.1 (352, 125, 0, 129) (List.mem_of_getElem? (i := 22) rfl)
theorem xR_400_115_0 {h : zH} (hx : zFx h) : zR h 400 115 0 = some 116 := hx.2.2.1 (400, 115, 0, 116) (List.mem_of_getElem? (i := 23) rfl)
theorem xR_400_122_0 {h : zH} (hx : zFx h) : zR h 400 122 0 = some 123 := hx.2.2.1 (400, 122, 0, 123) (List.mem_of_getElem? (i := 24) rfl)
theorem xR_400_129_0 {h : zH} (hx : zFx h) : zR h 400 129 0 = some 130 := hx.2.2.1 (400, 129, 0, 130) (List.mem_of_getElem? (i := 25) rfl)
theorem xR_401_115_0 {h : zH} (hx : zFx h) : zR h 401 115 0 = some 117 := hx.2.2.1 (401, 115, 0, 117) (List.mem_of_getElem? (i := 26) rfl)
theorem xR_401_122_0 {h : zH} (hx : zFx h) : zR h 401 122 0 = some 124 := hx.2.2.1 (401, 122, 0, 124) (List.mem_of_getElem? (i := 27) rfl)
theorem xR_401_129_0 {h : zH} (hx : zFx h) : zR h 401 129 0 = some 131 := hx.2.2.1 (401, 129, 0, 131) (List.mem_of_getElem? (i := 28) rfl)
theorem xR_450_100_0 {h : zH} (hx : zFx h) : zR h 450 100 0 = some 101 := hx.2.2.1 (450, 100, 0, 101) (List.mem_of_getElem? (i := 29) rfl)
theorem xR_451_100_0 {h : zH} (hx : zFx h) : zR h 451 100 0 = some 110 := hx.2.2.1 (451, 100, 0, 110) (List.mem_of_getElem? (i := 30) rfl)
theorem xR_501_132_0 {h : zH} (hx : zFx h) : zR h 501 132 0 = some 133 := hx.2.2.1 (501, 132, 0, 133) (List.mem_of_getElem? (i := 31) rfl)
theorem xR_502_132_0 {h : zH} (hx : zFx h) : zR h 502 132 0 = some 134 := hx.2.2.1 (502, 132, 0, 134) (List.mem_of_getElem? (i := 32) rfl)
theorem xR_503_132_0 {h : zH} (hx : zFx h) : zR h 503 132 0 = some 135 := hx.2.2.1 (503, 132, 0, 135) (List.mem_of_getElem? (i := 33) rfl)
theorem xR_504_132_0 {h : zH} (hx : zFx h) : zR h 504 132 0 = some 136 := hx.2.2.1 (504, 132, 0, 136) (List.mem_of_getElem? (i := 34) rfl)
theorem xR_505_132_0 {h : zH} (hx : zFx h) : zR h 505 132 0 = some 137 := hx.2.2.1 (505, 132, 0, 137) (List.mem_of_getElem? (i := 35) rfl)
theorem xR_506_132_0 {h : zH} (hx : zFx h) : zR h 506 132 0 = some 138 := hx.2.2.1 (506, 132, 0, 138) (List.mem_of_getElem? (i := 36) rfl)
theorem xR_507_132_0 {h : zH} (hx : zFx h) : zR h 507 132 0 = some 139 := hx.2.2.1 (507, 132, 0, 139) (List.mem_of_getElem? (i := 37) rfl)
theorem xR_508_132_0 {h : zH} (hx : zFx h) : zR h 508 132 0 = some 140 := hx.2.2.1 (508, 132, 0, 140) (List.mem_of_getElem? (i := 38) rfl)
theorem xR_510_132_0 {h : zH} (hx : zFx h) : zR h 510 132 0 = some 141 := hx.2.2.1 (510, 132, 0, 141) (List.mem_of_getElem? (i := 39) rfl)
theorem xR_511_132_0 {h : zH} (hx : zFx h) : zR h 511 132 0 = some 142 := hx.2.2.1 (511, 132, 0, 142) (List.mem_of_getElem? (i := 40) rfl)
theorem xR_512_132_0 {h : zH} (hx : zFx h) : zR h 512 132 0 = some 143 := hx.2.2.1 (512, 132, 0, 143) (List.mem_of_getElem? (i := 41) rfl)
theorem xR_513_132_0 {h : zH} (hx : zFx h) : zR h 513 132 0 = some 144 := hx.2.2.1 (513, 132, 0, 144) (List.mem_of_getElem? (i := 42) rfl)
theorem xR_514_132_0 {h : zH} (hx : zFx h) : zR h 514 132 0 = some 145 := hx.2.2.1 (514, 132, 0, 145) (List.mem_of_getElem? (i := 43) rfl)
theorem xR_515_132_0 {h : zH} (hx : zFx h) : zR h 515 132 0 = some 146 := hx.2.2.1 (515, 132, 0, 146) (List.mem_of_getElem? (i := 44) rfl)
theorem xR_516_132_0 {h : zH} (hx : zFx h) : zR h 516 132 0 = some 147 := hx.2.2.1 (516, 132, 0, 147) (List.mem_of_getElem? (i := 45) rfl)
theorem xR_517_132_0 {h : zH} (hx : zFx h) : zR h 517 132 0 = some 148 := hx.2.2.1 (517, 132, 0, 148) (List.mem_of_getElem? (i := 46) rfl)
theorem xR_518_132_0 {h : zH} (hx : zFx h) : zR h 518 132 0 = some 149 := hx.2.2.1 (518, 132, 0, 149) (List.mem_of_getElem? (i := 47) rfl)
theorem xR_519_132_0 {h : zH} (hx : zFx h) : zR h 519 132 0 = some 150 := hx.2.2.1 (519, 132, 0, 150) (List.mem_of_getElem? (i := 48) rfl)
theorem xR_536_132_0 {h : zH} (hx : zFx h) : zR h 536 132 0 = some 151 := hx.2.2.1 (536, 132, 0, 151) (List.mem_of_getElem? (i := 49) rfl)
theorem xR_537_132_0 {h : zH} (hx : zFx h) : zR h 537 132 0 = some 152 := hx.2.2.1 (537, 132, 0, 152) (List.mem_of_getElem? (i := 50) rfl)
theorem xR_538_132_0 {h : zH} (hx : zFx h) : zR h 538 132 0 = some 153 := hx.2.2.1 (538, 132, 0, 153) (List.mem_of_getElem? (i := 51) rfl)
theorem xs_ses {h : zH} (hx : zFx h) {s : Nat} (hs : s < 3) : zT h (111 + 7 * s) = 7 ∧ zE h (111 + 7 * s) = 0 := by
  rcases (by omega : s = 0 ∨ s = 1 ∨ s = 2) with rfl | rfl | rfl
  · exact hx.2.1 111 (by decide) (by decide)
  · exact hx.2.1 118 (by decide) (by decide)
  · exact hx.2.1 125 (by decide) (by decide)
theorem xs_line {h : zH} (hx : zFx h) {s : Nat} (hs : s < 3) : zT h (112 + 7 * s) = 22 ∧ zE h (112 + 7 * s) = 48 := by
  rcases (by omega : s = 0 ∨ s = 1 ∨ s = 2) with rfl | rfl | rfl
  · exact hx.2.1 112 (by decide) (by decide)
  · exact hx.2.1 119 (by decide) (by decide)
  · exact hx.2.1 126 (by decide) (by decide)
theorem xs_repl {h : zH} (hx : zFx h) {s : Nat} (hs : s < 3) : zT h (113 + 7 * s) = 6 ∧ zE h (113 + 7 * s) = 0 := by
  rcases (by omega : s = 0 ∨ s = 1 ∨ s = 2) with rfl | rfl | rfl
  · exact hx.2.1 113 (by decide) (by decide)
  · exact hx.2.1 120 (by decide) (by decide)
  · exact hx.2.1 127 (by decide) (by decide)
theorem xs_sign {h : zH} (hx : zFx h) {s : Nat} (hs : s < 3) : zT h (114 + 7 * s) = 22 ∧ zE h (114 + 7 * s) = 1024 := by
  rcases (by omega : s = 0 ∨ s = 1 ∨ s = 2) with rfl | rfl | rfl
  · exact hx.2.1 114 (by decide) (by decide)
  · exact hx.2.1 121 (by decide) (by decide)
  · exact hx.2.1 128 (by decide) (by decide)
theorem xs_view {h : zH} (hx : zFx h) {s : Nat} (hs : s < 3) : zT h (115 + 7 * s) = 8 ∧ zE h (115 + 7 * s) = 0 := by
  rcases (by omega : s = 0 ∨ s = 1 ∨ s = 2) with rfl | rfl | rfl
  · exact hx.2.1 115 (by decide) (by decide)
  · exact hx.2.1 122 (by decide) (by decide)
  · exact hx.2.1 129 (by decide) (by decide)
theorem xs_vrow {h : zH} (hx : zFx h) {s : Nat} (hs : s < 3) : zT h (116 + 7 * s) = 31 ∧ zE h (116 + 7 * s) = 40 := by
  rcases (by omega : s = 0 ∨ s = 1 ∨ s = 2) with rfl | rfl | rfl
  · exact hx.2.1 116 (by decide) (by decide)
  · exact hx.2.1 123 (by decide) (by decide)
  · exact hx.2.1 130 (by decide) (by decide)
theorem xs_told {h : zH} (hx : zFx h) {s : Nat} (hs : s < 3) : zT h (117 + 7 * s) = 20 ∧ zE h (117 + 7 * s) = 40 := by
  rcases (by omega : s = 0 ∨ s = 1 ∨ s = 2) with rfl | rfl | rfl
  · exact hx.2.1 117 (by decide) (by decide)
  · exact hx.2.1 124 (by decide) (by decide)
  · exact hx.2.1 131 (by decide) (by decide)
theorem xs_fline {h : zH} (hx : zFx h) {s : Nat} (hs : s < 3) : zR h 350 (111 + 7 * s) 0 = some (112 + 7 * s) := by
  rcases (by omega : s = 0 ∨ s = 1 ∨ s = 2) with rfl | rfl | rfl
  · exact xR_350_111_0 hx
  · exact xR_350_118_0 hx
  · exact xR_350_125_0 hx
theorem xs_frepl {h : zH} (hx : zFx h) {s : Nat} (hs : s < 3) : zR h 351 (111 + 7 * s) 0 = some (113 + 7 * s) := by
  rcases (by omega : s = 0 ∨ s = 1 ∨ s = 2) with rfl | rfl | rfl
  · exact xR_351_111_0 hx
  · exact xR_351_118_0 hx
  · exact xR_351_125_0 hx
theorem xs_fview {h : zH} (hx : zFx h) {s : Nat} (hs : s < 3) : zR h 352 (111 + 7 * s) 0 = some (115 + 7 * s) := by
  rcases (by omega : s = 0 ∨ s = 1 ∨ s = 2) with rfl | rfl | rfl
  · exact xR_352_111_0 hx
  · exact xR_352_118_0 hx
  · exact xR_352_125_0 hx
theorem xs_fsign {h : zH} (hx : zFx h) {s : Nat} (hs : s < 3) : zR h 300 (113 + 7 * s) 0 = some (114 + 7 * s) := by
  rcases (by omega : s = 0 ∨ s = 1 ∨ s = 2) with rfl | rfl | rfl
  · exact xR_300_113_0 hx
  · exact xR_300_120_0 hx
  · exact xR_300_127_0 hx
theorem xs_fvrow {h : zH} (hx : zFx h) {s : Nat} (hs : s < 3) : zR h 400 (115 + 7 * s) 0 = some (116 + 7 * s) := by
  rcases (by omega : s = 0 ∨ s = 1 ∨ s = 2) with rfl | rfl | rfl
  · exact xR_400_115_0 hx
  · exact xR_400_122_0 hx
  · exact xR_400_129_0 hx
theorem xs_ftold {h : zH} (hx : zFx h) {s : Nat} (hs : s < 3) : zR h 401 (115 + 7 * s) 0 = some (117 + 7 * s) := by
  rcases (by omega : s = 0 ∨ s = 1 ∨ s = 2) with rfl | rfl | rfl
  · exact xR_401_115_0 hx
  · exact xR_401_122_0 hx
  · exact xR_401_129_0 hx
theorem xs_at {h : zH} (hx : zFx h) {s : Nat} (hs : s < 3) : zR h 0 110 s = some (111 + 7 * s) := by
  rcases (by omega : s = 0 ∨ s = 1 ∨ s = 2) with rfl | rfl | rfl
  · exact xR_0_110_0 hx
  · exact xR_0_110_1 hx
  · exact xR_0_110_2 hx
theorem xb_mbox {h : zH} (hx : zFx h) {b : Nat} (hb : b < 4) : zT h (102 + 2 * b) = 3 ∧ zE h (102 + 2 * b) = 0 := by
  rcases (by omega : b = 0 ∨ b = 1 ∨ b = 2 ∨ b = 3) with rfl | rfl | rfl | rfl
  · exact hx.2.1 102 (by decide) (by decide)
  · exact hx.2.1 104 (by decide) (by decide)
  · exact hx.2.1 106 (by decide) (by decide)
  · exact hx.2.1 108 (by decide) (by decide)
theorem xb_mrow {h : zH} (hx : zFx h) {b : Nat} (hb : b < 4) : zT h (103 + 2 * b) = 31 ∧ zE h (103 + 2 * b) = 10 := by
  rcases (by omega : b = 0 ∨ b = 1 ∨ b = 2 ∨ b = 3) with rfl | rfl | rfl | rfl
  · exact hx.2.1 103 (by decide) (by decide)
  · exact hx.2.1 105 (by decide) (by decide)
  · exact hx.2.1 107 (by decide) (by decide)
  · exact hx.2.1 109 (by decide) (by decide)
theorem xb_frow {h : zH} (hx : zFx h) {b : Nat} (hb : b < 4) : zR h 150 (102 + 2 * b) 0 = some (103 + 2 * b) := by
  rcases (by omega : b = 0 ∨ b = 1 ∨ b = 2 ∨ b = 3) with rfl | rfl | rfl | rfl
  · exact xR_150_102_0 hx
  · exact xR_150_104_0 hx
  · exact xR_150_106_0 hx
  · exact xR_150_108_0 hx
theorem xb_at {h : zH} (hx : zFx h) {b : Nat} (hb : b < 4) : zR h 0 101 b = some (102 + 2 * b) := by
  rcases (by omega : b = 0 ∨ b = 1 ∨ b = 2 ∨ b = 3) with rfl | rfl | rfl | rfl
  · exact xR_0_101_0 hx
  · exact xR_0_101_1 hx
  · exact xR_0_101_2 hx
  · exact xR_0_101_3 hx
