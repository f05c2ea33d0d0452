/-! ===== counting bits, eight at a time ===== -/
theorem zl_us {a k : Nat} {t : UInt64} (ha : a < 18446744073709551616) (ht : t.toNat % 64 = k) : ((nL a).toUInt64 >>> t).toInt64 = nL (a / 2 ^ k) := by
  apply Int64.toBitVec_inj.mp
  apply BitVec.eq_of_toNat_eq
  show ((nL a).toUInt64 >>> t).toNat = (BitVec.ofNat 64 (a / 2 ^ k)).toNat
  rw [UInt64.toNat_shiftRight, ht, BitVec.toNat_ofNat, Nat.shiftRight_eq_div_pow]
  show (BitVec.ofNat 64 a).toNat / 2 ^ k = _
  rw [BitVec.toNat_ofNat, Nat.mod_eq_of_lt (show a < 2 ^ 64 from ha), Nat.mod_eq_of_lt]
  exact Nat.lt_of_le_of_lt (Nat.div_le_self _ _) ha
def zy8 (f : Nat → Nat) : Nat → Nat → Nat
  | 0, _ => 0
  | n + 1, x => f (x % 256) + 256 * zy8 f n (x / 256)
def zy8m (c : Nat) : Nat → Nat
  | 0 => 0
  | n + 1 => c + 256 * zy8m c n
theorem zand8 {a c y m : Nat} (ha : a < 256) (hc : c < 256) : (a + 256 * y) &&& (c + 256 * m) = (a &&& c) + 256 * (y &&& m) := by
  have h1 : ((a + 256 * y) &&& (c + 256 * m)) % 2 ^ 8 = a &&& c := by
    rw [Nat.and_mod_two_pow, show (a + 256 * y) % 2 ^ 8 = a from by omega, show (c + 256 * m) % 2 ^ 8 = c from by omega]
  have h2 : ((a + 256 * y) &&& (c + 256 * m)) / 2 ^ 8 = y &&& m := by
    rw [Nat.and_div_two_pow, show (a + 256 * y) / 2 ^ 8 = y from by omega, show (c + 256 * m) / 2 ^ 8 = m from by omega]
  omega
theorem zy8_cg {f g : Nat → Nat} (h : ∀ b, b < 256 → f b = g b) : ∀ n x, zy8 f n x = zy8 g n x
  | 0, _ => rfl
  | n + 1, x => by
    unfold zy8
    rw [h _ (Nat.mod_lt _ (by decide)), zy8_cg h n]
theorem zy8_add {f g : Nat → Nat} : ∀ n x, zy8 f n x + zy8 g n x = zy8 (fun b => f b + g b) n x
  | 0, _ => rfl
  | n + 1, x => by
    unfold zy8
    rw [← zy8_add n]
    omega
theorem zy8_id : ∀ n x, x < 256 ^ n → zy8 (fun b => b) n x = x
  | 0, x, h => by
    have : x < 1 := h
    unfold zy8
    omega
  | n + 1, x, h => by
    have h' : x < 256 * 256 ^ n := by rw [Nat.mul_comm]; exact h
    unfold zy8
    rw [zy8_id n (x / 256) (Nat.div_lt_of_lt_mul h')]
    omega
theorem zy8_co {f g : Nat → Nat} (h : ∀ b, b < 256 → f b < 256) : ∀ n x, zy8 g n (zy8 f n x) = zy8 (fun b => g (f b)) n x
  | 0, _ => rfl
  | n + 1, x => by
    have hb := h _ (Nat.mod_lt x (show 0 < 256 by decide))
    have e1 : (f (x % 256) + 256 * zy8 f n (x / 256)) % 256 = f (x % 256) := by omega
    have e2 : (f (x % 256) + 256 * zy8 f n (x / 256)) / 256 = zy8 f n (x / 256) := by omega
    show g ((f (x % 256) + 256 * zy8 f n (x / 256)) % 256) + 256 * zy8 g n ((f (x % 256) + 256 * zy8 f n (x / 256)) / 256) = g (f (x % 256)) + 256 * zy8 (fun b => g (f b)) n (x / 256)
    rw [e1, e2, zy8_co h n]
theorem zy8_a1 : ∀ n x, (x / 2) &&& zy8m 85 n = zy8 (fun b => b / 2 &&& 85) n x
  | 0, x => Nat.and_zero _
  | n + 1, x => by
    have by1 : ∀ b, b < 256 → ∀ t, t < 2 → (b / 2 + 128 * t) &&& 85 = b / 2 &&& 85 := by decide +kernel
    have hb := Nat.mod_lt x (show 0 < 256 by decide)
    have ht := Nat.mod_lt (x / 256) (show 0 < 2 by decide)
    have e : x / 2 = (x % 256 / 2 + 128 * (x / 256 % 2)) + 256 * (x / 256 / 2) := by omega
    rw [e]
    unfold zy8m zy8
    rw [zand8 (by omega) (by decide), by1 _ hb _ ht, zy8_a1 n]
theorem zy8_a2 : ∀ n x, (x / 4) &&& zy8m 51 n = zy8 (fun b => b / 4 &&& 51) n x
  | 0, x => Nat.and_zero _
  | n + 1, x => by
    have by1 : ∀ b, b < 256 → ∀ t, t < 4 → (b / 4 + 64 * t) &&& 51 = b / 4 &&& 51 := by decide +kernel
    have hb := Nat.mod_lt x (show 0 < 256 by decide)
    have ht := Nat.mod_lt (x / 256) (show 0 < 4 by decide)
    have e : x / 4 = (x % 256 / 4 + 64 * (x / 256 % 4)) + 256 * (x / 256 / 4) := by omega
    rw [e]
    unfold zy8m zy8
    rw [zand8 (by omega) (by decide), by1 _ hb _ ht, zy8_a2 n]
theorem zy8_a3 : ∀ n x, x &&& zy8m 51 n = zy8 (fun b => b &&& 51) n x
  | 0, x => Nat.and_zero _
  | n + 1, x => by
    have hb := Nat.mod_lt x (show 0 < 256 by decide)
    have e : x = x % 256 + 256 * (x / 256) := by omega
    unfold zy8m zy8
    rw [← zy8_a3 n, ← zand8 hb (by decide), ← e]
theorem zy8_a4 {g : Nat → Nat} (h : ∀ b, b < 256 → g b ≤ 68 ∧ g b % 16 ≤ 4) : ∀ n x, (zy8 g n x + zy8 g n x / 16) &&& zy8m 15 n = zy8 (fun b => (g b + g b / 16) &&& 15) n x
  | 0, x => Nat.and_zero _
  | n + 1, x => by
    have by1 : ∀ b, b < 69 → ∀ t, t < 5 → (b + b / 16 + 16 * t) &&& 15 = (b + b / 16) &&& 15 := by decide +kernel
    have hb := h _ (Nat.mod_lt x (show 0 < 256 by decide))
    have lo : zy8 g n (x / 256) % 16 < 5 := by
      cases n with
      | zero => exact (by decide : 0 % 16 < 5)
      | succ k =>
        have hc := (h _ (Nat.mod_lt (x / 256) (show 0 < 256 by decide))).2
        unfold zy8
        omega
    have e : (g (x % 256) + 256 * zy8 g n (x / 256)) + (g (x % 256) + 256 * zy8 g n (x / 256)) / 16 = (g (x % 256) + g (x % 256) / 16 + 16 * (zy8 g n (x / 256) % 16)) + 256 * (zy8 g n (x / 256) + zy8 g n (x / 256) / 16) := by omega
    show ((g (x % 256) + 256 * zy8 g n (x / 256)) + (g (x % 256) + 256 * zy8 g n (x / 256)) / 16) &&& (15 + 256 * zy8m 15 n) = ((g (x % 256) + g (x % 256) / 16) &&& 15) + 256 * zy8 _ n (x / 256)
    rw [e, zand8 (by omega) (by decide), by1 _ (by omega) _ lo, zy8_a4 h n]
theorem zbc_m (x : Nat) : ∀ n, n ≤ 8 → zbc (x % 256) n = zbc x n
  | 0, _ => rfl
  | n + 1, h => by
    have tb : (x % 256).testBit n = x.testBit n := by
      rw [show 256 = 2 ^ 8 from rfl, Nat.testBit_mod_two_pow, decide_eq_true (show n < 8 by omega), Bool.true_and]
    show zbc (x % 256) n + ((x % 256).testBit n).toNat = zbc x n + (x.testBit n).toNat
    rw [tb, zbc_m x n (by omega)]
theorem zbc_8 (x : Nat) : ∀ n, zbc x (8 + n) = zbc (x % 256) 8 + zbc (x / 256) n
  | 0 => by
    show zbc x 8 = zbc (x % 256) 8 + 0
    rw [zbc_m x 8 (Nat.le_refl _), Nat.add_zero]
  | n + 1 => by
    have tb : (x / 256).testBit n = x.testBit (8 + n) := by
      rw [show 256 = 2 ^ 8 from rfl, Nat.testBit_div_two_pow, Nat.add_comm n 8]
    show zbc x (8 + n) + (x.testBit (8 + n)).toNat = zbc (x % 256) 8 + (zbc (x / 256) n + ((x / 256).testBit n).toNat)
    rw [zbc_8 x n, tb, Nat.add_assoc]
def zg1 (b : Nat) : Nat := b - (b / 2 &&& 85)
def zg2 (b : Nat) : Nat := (zg1 b &&& 51) + (zg1 b / 4 &&& 51)
theorem zg_all : ∀ b, b < 256 → (zg1 b < 256 ∧ zg1 b + (b / 2 &&& 85) = b) ∧ (zg2 b ≤ 68 ∧ zg2 b % 16 ≤ 4) ∧ (zg2 b + zg2 b / 16) &&& 15 = zbc b 8 ∧ zbc b 8 ≤ 8 := by decide +kernel
theorem zl_us1 {a : Nat} (ha : a < 18446744073709551616) : ((nL a).toUInt64 >>> ((nI 1).toInt64.toUInt64 &&& Int64.toUInt64 63)).toInt64 = nL (a / 2) := by
  have e : ((nI 1).toInt64.toUInt64 &&& Int64.toUInt64 63).toNat % 64 = 1 := by decide
  rw [zl_us ha e]
theorem zl_us2 {a : Nat} (ha : a < 18446744073709551616) : ((nL a).toUInt64 >>> ((nI 2).toInt64.toUInt64 &&& Int64.toUInt64 63)).toInt64 = nL (a / 4) := by
  have e : ((nI 2).toInt64.toUInt64 &&& Int64.toUInt64 63).toNat % 64 = 2 := by decide
  rw [zl_us ha e]
theorem zl_us4 {a : Nat} (ha : a < 18446744073709551616) : ((nL a).toUInt64 >>> ((nI 4).toInt64.toUInt64 &&& Int64.toUInt64 63)).toInt64 = nL (a / 16) := by
  have e : ((nI 4).toInt64.toUInt64 &&& Int64.toUInt64 63).toNat % 64 = 4 := by decide
  rw [zl_us ha e]
theorem zl_us8 {a : Nat} (ha : a < 18446744073709551616) : ((nL a).toUInt64 >>> ((nI 8).toInt64.toUInt64 &&& Int64.toUInt64 63)).toInt64 = nL (a / 256) := by
  have e : ((nI 8).toInt64.toUInt64 &&& Int64.toUInt64 63).toNat % 64 = 8 := by decide
  rw [zl_us ha e]
theorem zl_us16 {a : Nat} (ha : a < 18446744073709551616) : ((nL a).toUInt64 >>> ((nI 16).toInt64.toUInt64 &&& Int64.toUInt64 63)).toInt64 = nL (a / 65536) := by
  have e : ((nI 16).toInt64.toUInt64 &&& Int64.toUInt64 63).toNat % 64 = 16 := by decide
  rw [zl_us ha e]
theorem zl_us32 {a : Nat} (ha : a < 18446744073709551616) : ((nL a).toUInt64 >>> ((nI 32).toInt64.toUInt64 &&& Int64.toUInt64 63)).toInt64 = nL (a / 4294967296) := by
  have e : ((nI 32).toInt64.toUInt64 &&& Int64.toUInt64 63).toNat % 64 = 32 := by decide
  rw [zl_us ha e]
theorem zy_c5 : zy8m 85 8 = 6148914691236517205 := by decide +kernel
theorem zy_c3 : zy8m 51 8 = 3689348814741910323 := by decide +kernel
theorem zy_cf : zy8m 15 8 = 1085102592571150095 := by decide +kernel
theorem zs_1 {a b c d e f g i w r1 : Nat} (hw : w = a + 256 * (b + 256 * (c + 256 * (d + 256 * (e + 256 * (f + 256 * (g + 256 * (i + 256 * 0)))))))) (h1 : r1 = b + 256 * (c + 256 * (d + 256 * (e + 256 * (f + 256 * (g + 256 * i)))))) : w = a + 256 * r1 := by omega
theorem zs_2 {a b c d e f g i w r1 r2 : Nat} (hw : w = a + 256 * (b + 256 * (c + 256 * (d + 256 * (e + 256 * (f + 256 * (g + 256 * (i + 256 * 0)))))))) (h1 : r1 = b + 256 * (c + 256 * (d + 256 * (e + 256 * (f + 256 * (g + 256 * i)))))) (h2 : r2 = (c + d) + 256 * ((d + e) + 256 * ((e + f) + 256 * ((f + g) + 256 * ((g + i) + 256 * i))))) : w + r1 = ((a + b) + 256 * (b + c)) + 65536 * r2 := by omega
theorem zs_3 {a b c d e f g i w r1 r2 r4 : Nat} (hw : w = a + 256 * (b + 256 * (c + 256 * (d + 256 * (e + 256 * (f + 256 * (g + 256 * (i + 256 * 0)))))))) (h1 : r1 = b + 256 * (c + 256 * (d + 256 * (e + 256 * (f + 256 * (g + 256 * i)))))) (h2 : r2 = (c + d) + 256 * ((d + e) + 256 * ((e + f) + 256 * ((f + g) + 256 * ((g + i) + 256 * i))))) (h4 : r4 = (e + f + g + i) + 256 * ((f + g + i) + 256 * ((g + i) + 256 * i))) : w + r1 + r2 = ((a + b + c + d) + 256 * ((b + c + d + e) + 256 * ((c + d + e + f) + 256 * (d + e + f + g)))) + 4294967296 * r4 := by omega
theorem zs_4 {a b c d e f g i w r1 r2 r4 : Nat} (hw : w = a + 256 * (b + 256 * (c + 256 * (d + 256 * (e + 256 * (f + 256 * (g + 256 * (i + 256 * 0)))))))) (h1 : r1 = b + 256 * (c + 256 * (d + 256 * (e + 256 * (f + 256 * (g + 256 * i)))))) (h2 : r2 = (c + d) + 256 * ((d + e) + 256 * ((e + f) + 256 * ((f + g) + 256 * ((g + i) + 256 * i))))) (h4 : r4 = (e + f + g + i) + 256 * ((f + g + i) + 256 * ((g + i) + 256 * i))) : w + r1 + r2 + r4 = (a + b + c + d + e + f + g + i) + 256 * ((b + c + d + e + f + g + i) + 256 * ((c + d + e + f + g + i) + 256 * ((d + e + f + g + i) + 256 * ((e + f + g + i) + 256 * ((f + g + i) + 256 * ((g + i) + 256 * i)))))) := by omega
theorem zs_5 {a r N : Nat} (ha : a ≤ 8) (hr : r ≤ N) : a + 256 * r ≤ 8 + 256 * N := by omega
theorem zs_6 {a b c d e f g i w : Nat} (ha : a ≤ 8) (hb : b ≤ 8) (hc : c ≤ 8) (hd : d ≤ 8) (he : e ≤ 8) (hf : f ≤ 8) (hg : g ≤ 8) (hi : i ≤ 8) (hw : w = a + 256 * (b + 256 * (c + 256 * (d + 256 * (e + 256 * (f + 256 * (g + 256 * (i + 256 * 0)))))))) : w ≤ 578721382704613384 := by
  rw [hw]
  exact zs_5 ha (zs_5 hb (zs_5 hc (zs_5 hd (zs_5 he (zs_5 hf (zs_5 hg (zs_5 hi (Nat.zero_le 0))))))))
theorem zs_d1 {x r : Nat} (hx : x < 256) : (x + 256 * r) / 256 = r := by omega
theorem zs_d2 {x r : Nat} (hx : x < 65536) : (x + 65536 * r) / 65536 = r := by omega
theorem zs_d3 {x r : Nat} (hx : x < 4294967296) : (x + 4294967296 * r) / 4294967296 = r := by omega
theorem zs_d4 {x r : Nat} (hx : x < 128) : (x + 256 * r) % 128 = x := by omega
theorem zs_b2 {a b c : Nat} (ha : a ≤ 8) (hb : b ≤ 8) (hc : c ≤ 8) : (a + b) + 256 * (b + c) < 65536 := by omega
theorem zs_b3 {a b c d e f g : Nat} (ha : a ≤ 8) (hb : b ≤ 8) (hc : c ≤ 8) (hd : d ≤ 8) (he : e ≤ 8) (hf : f ≤ 8) (hg : g ≤ 8) : ((a + b + c + d) + 256 * ((b + c + d + e) + 256 * ((c + d + e + f) + 256 * (d + e + f + g)))) < 4294967296 := by omega
theorem zs_b4 {a b c d e f g i : Nat} (ha : a ≤ 8) (hb : b ≤ 8) (hc : c ≤ 8) (hd : d ≤ 8) (he : e ≤ 8) (hf : f ≤ 8) (hg : g ≤ 8) (hi : i ≤ 8) : a + b + c + d + e + f + g + i < 128 := by omega
theorem zs_le {w r1 r2 : Nat} (hw : w ≤ 578721382704613384) (h1 : r1 ≤ w) (h2 : r2 ≤ w + r1) : w < 18446744073709551616 ∧ w + r1 < 18446744073709551616 ∧ w + r1 + r2 < 18446744073709551616 := by omega
theorem zsum8 {a b c d e f g i w : Nat} (ha : a ≤ 8) (hb : b ≤ 8) (hc : c ≤ 8) (hd : d ≤ 8) (he : e ≤ 8) (hf : f ≤ 8) (hg : g ≤ 8) (hi : i ≤ 8) (hw : w = a + 256 * (b + 256 * (c + 256 * (d + 256 * (e + 256 * (f + 256 * (g + 256 * (i + 256 * 0)))))))) : (w < 18446744073709551616 ∧ w + w / 256 < 18446744073709551616 ∧ w + w / 256 + (w + w / 256) / 65536 < 18446744073709551616) ∧ (w + w / 256 + (w + w / 256) / 65536 + (w + w / 256 + (w + w / 256) / 65536) / 4294967296) % 128 = a + b + c + d + e + f + g + i := by
  have w6 := zs_6 (w := w) ha hb hc hd he hf hg hi hw
  refine ⟨zs_le w6 (Nat.div_le_self _ _) (Nat.div_le_self _ _), ?_⟩
  have e1 : w / 256 = b + 256 * (c + 256 * (d + 256 * (e + 256 * (f + 256 * (g + 256 * i))))) := by
    rw [zs_1 hw rfl]
    exact zs_d1 (Nat.lt_of_le_of_lt ha (by decide))
  rw [e1]
  have e2 := zs_2 hw rfl rfl
  have e3 := zs_3 hw rfl rfl rfl
  have e4 := zs_4 hw rfl rfl rfl
  have f2 : (w + (b + 256 * (c + 256 * (d + 256 * (e + 256 * (f + 256 * (g + 256 * i))))))) / 65536 = (c + d) + 256 * ((d + e) + 256 * ((e + f) + 256 * ((f + g) + 256 * ((g + i) + 256 * i)))) := by
    rw [e2]
    exact zs_d2 (zs_b2 ha hb hc)
  rw [f2, e3, zs_d3 (zs_b3 ha hb hc hd he hf hg), ← e3, e4]
  exact zs_d4 (zs_b4 ha hb hc hd he hf hg hi)
