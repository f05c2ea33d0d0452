/-! ===== paths of bitCount (printed by wip/whole/gen/cls.py) ===== -/
theorem p0_0_1 {L : Nat} {xs : Nat → Int32} {h : zH} {m : zMm} {p : Int64}  (hx : zFx h) : zEv (zPr L xs) 0 0 0 [.val (.long p), .second] [] (zMH h m) = zEv (zPr L xs) 0 0 10 [.val (.long (p - (((((p.toUInt64 >>> (((nI 1)).toInt64.toUInt64 &&& Int64.toUInt64 63)).toInt64)) &&& ((nL 6148914691236517205)))))), .second] [] (zMH h m) := Eq.trans (zEv_go lk_0_0 rfl) (Eq.trans (zEv_go lk_0_1 rfl) (Eq.trans (zEv_go lk_0_2 rfl) (Eq.trans (zEv_go lk_0_3 rfl) (Eq.trans (zEv_go lk_0_4 rfl) (Eq.trans (zEv_go lk_0_7 rfl) (Eq.trans (zEv_go lk_0_8 rfl) (k_lstore lk_0_9 rfl)))))))
theorem p0_10_1 {L : Nat} {xs : Nat → Int32} {h : zH} {m : zMm} {p : Int64}  (hx : zFx h) : zEv (zPr L xs) 0 0 10 [.val (.long p), .second] [] (zMH h m) = zEv (zPr L xs) 0 0 24 [.val (.long (((p &&& ((nL 3689348814741910323)))) + (((((p.toUInt64 >>> (((nI 2)).toInt64.toUInt64 &&& Int64.toUInt64 63)).toInt64)) &&& ((nL 3689348814741910323)))))), .second] [] (zMH h m) := Eq.trans (zEv_go lk_0_10 rfl) (Eq.trans (zEv_go lk_0_11 rfl) (Eq.trans (zEv_go lk_0_14 rfl) (Eq.trans (zEv_go lk_0_15 rfl) (Eq.trans (zEv_go lk_0_16 rfl) (Eq.trans (zEv_go lk_0_17 rfl) (Eq.trans (zEv_go lk_0_18 rfl) (Eq.trans (zEv_go lk_0_21 rfl) (Eq.trans (zEv_go lk_0_22 rfl) (k_lstore lk_0_23 rfl)))))))))
theorem p0_24_1 {L : Nat} {xs : Nat → Int32} {h : zH} {m : zMm} {p : Int64}  (hx : zFx h) : zEv (zPr L xs) 0 0 24 [.val (.long p), .second] [] (zMH h m) = zEv (zPr L xs) 0 0 34 [.val (.long (((p + (((p.toUInt64 >>> (((nI 4)).toInt64.toUInt64 &&& Int64.toUInt64 63)).toInt64)))) &&& ((nL 1085102592571150095)))), .second] [] (zMH h m) := Eq.trans (zEv_go lk_0_24 rfl) (Eq.trans (zEv_go lk_0_25 rfl) (Eq.trans (zEv_go lk_0_26 rfl) (Eq.trans (zEv_go lk_0_27 rfl) (Eq.trans (zEv_go lk_0_28 rfl) (Eq.trans (zEv_go lk_0_29 rfl) (Eq.trans (zEv_go lk_0_32 rfl) (k_lstore lk_0_33 rfl)))))))
theorem p0_34_1 {L : Nat} {xs : Nat → Int32} {h : zH} {m : zMm} {p : Int64}  (hx : zFx h) : zEv (zPr L xs) 0 0 34 [.val (.long p), .second] [] (zMH h m) = zEv (zPr L xs) 0 0 41 [.val (.long (p + (((p.toUInt64 >>> (((nI 8)).toInt64.toUInt64 &&& Int64.toUInt64 63)).toInt64)))), .second] [] (zMH h m) := Eq.trans (zEv_go lk_0_34 rfl) (Eq.trans (zEv_go lk_0_35 rfl) (Eq.trans (zEv_go lk_0_36 rfl) (Eq.trans (zEv_go lk_0_38 rfl) (Eq.trans (zEv_go lk_0_39 rfl) (k_lstore lk_0_40 rfl)))))
theorem p0_41_1 {L : Nat} {xs : Nat → Int32} {h : zH} {m : zMm} {p : Int64}  (hx : zFx h) : zEv (zPr L xs) 0 0 41 [.val (.long p), .second] [] (zMH h m) = zEv (zPr L xs) 0 0 48 [.val (.long (p + (((p.toUInt64 >>> (((nI 16)).toInt64.toUInt64 &&& Int64.toUInt64 63)).toInt64)))), .second] [] (zMH h m) := Eq.trans (zEv_go lk_0_41 rfl) (Eq.trans (zEv_go lk_0_42 rfl) (Eq.trans (zEv_go lk_0_43 rfl) (Eq.trans (zEv_go lk_0_45 rfl) (Eq.trans (zEv_go lk_0_46 rfl) (k_lstore lk_0_47 rfl)))))
theorem p0_48_1 {L : Nat} {xs : Nat → Int32} {h : zH} {m : zMm} {p : Int64}  (hx : zFx h) : zEv (zPr L xs) 0 0 48 [.val (.long p), .second] [] (zMH h m) = zEv (zPr L xs) 0 0 55 [.val (.long (p + (((p.toUInt64 >>> (((nI 32)).toInt64.toUInt64 &&& Int64.toUInt64 63)).toInt64)))), .second] [] (zMH h m) := Eq.trans (zEv_go lk_0_48 rfl) (Eq.trans (zEv_go lk_0_49 rfl) (Eq.trans (zEv_go lk_0_50 rfl) (Eq.trans (zEv_go lk_0_52 rfl) (Eq.trans (zEv_go lk_0_53 rfl) (k_lstore lk_0_54 rfl)))))
theorem p0_55_1 {L : Nat} {xs : Nat → Int32} {h : zH} {m : zMm} {p : Int64}  (hx : zFx h) : zEv (zPr L xs) 0 0 55 [.val (.long p), .second] [] (zMH h m) = some (.inl (some (.int (p.toInt32 &&& ((nI 127))))), zMH h m) := Eq.trans (zEv_go lk_0_55 rfl) (Eq.trans (zEv_go lk_0_56 rfl) (Eq.trans (zEv_go lk_0_57 rfl) (Eq.trans (zEv_go lk_0_59 rfl) (k_iret lk_0_60 rfl))))
/-! ===== counting bits, eight at a time ===== -/
theorem zl_us {a k : Nat} {t : UInt64} (ha : a < 18446744073709551616) (ht : t.toNat % 64 = k) : ((nL a).toUInt64 >>> t).toInt64 = nL (a / 2 ^ k) := by
  apply Int64.toBitVec_inj.mp
  apply BitVec.eq_of_toNat_eq
  show ((nL a).toUInt64 >>> t).toNat = (BitVec.ofNat 64 (a / 2 ^ k)).toNat
  rw [UInt64.toNat_shiftRight, ht, BitVec.toNat_ofNat, Nat.shiftRight_eq_div_pow]
  show (BitVec.ofNat 64 a).toNat / 2 ^ k = _
  rw [BitVec.toNat_ofNat, Nat.mod_eq_of_lt (show a < 2 ^ 64 from ha), Nat.mod_eq_of_lt]
  exact Nat.lt_of_le_of_lt (Nat.div_le_self _ _) ha
def zb8 (f : Nat → Nat) : Nat → Nat → Nat
  | 0, _ => 0
  | n + 1, x => f (x % 256) + 256 * zb8 f n (x / 256)
def zm8 (c : Nat) : Nat → Nat
  | 0 => 0
  | n + 1 => c + 256 * zm8 c n
theorem zand8 {a c y m : Nat} (ha : a < 256) (hc : c < 256) : (a + 256 * y) &&& (c + 256 * m) = (a &&& c) + 256 * (y &&& m) := by
  have h1 : ((a + 256 * y) &&& (c + 256 * m)) % 2 ^ 8 = a &&& c := by
    rw [Nat.and_mod_two_pow, show (a + 256 * y) % 2 ^ 8 = a from by omega, show (c + 256 * m) % 2 ^ 8 = c from by omega]
  have h2 : ((a + 256 * y) &&& (c + 256 * m)) / 2 ^ 8 = y &&& m := by
    rw [Nat.and_div_two_pow, show (a + 256 * y) / 2 ^ 8 = y from by omega, show (c + 256 * m) / 2 ^ 8 = m from by omega]
  omega
theorem zb8_cg {f g : Nat → Nat} (h : ∀ b, b < 256 → f b = g b) : ∀ n x, zb8 f n x = zb8 g n x
  | 0, _ => rfl
  | n + 1, x => by
    unfold zb8
    rw [h _ (Nat.mod_lt _ (by decide)), zb8_cg h n]
theorem zb8_add {f g : Nat → Nat} : ∀ n x, zb8 f n x + zb8 g n x = zb8 (fun b => f b + g b) n x
  | 0, _ => rfl
  | n + 1, x => by
    unfold zb8
    rw [← zb8_add n]
    omega
theorem zb8_id : ∀ n x, x < 256 ^ n → zb8 (fun b => b) n x = x
  | 0, x, h => by
    have : x < 1 := h
    unfold zb8
    omega
  | n + 1, x, h => by
    have h' : x < 256 * 256 ^ n := by rw [Nat.mul_comm]; exact h
    unfold zb8
    rw [zb8_id n (x / 256) (Nat.div_lt_of_lt_mul h')]
    omega
theorem zb8_co {f g : Nat → Nat} (h : ∀ b, b < 256 → f b < 256) : ∀ n x, zb8 g n (zb8 f n x) = zb8 (fun b => g (f b)) n x
  | 0, _ => rfl
  | n + 1, x => by
    have hb := h _ (Nat.mod_lt x (show 0 < 256 by decide))
    have e1 : (f (x % 256) + 256 * zb8 f n (x / 256)) % 256 = f (x % 256) := by omega
    have e2 : (f (x % 256) + 256 * zb8 f n (x / 256)) / 256 = zb8 f n (x / 256) := by omega
    unfold zb8
    rw [e1, e2, zb8_co h n]
theorem zb8_a1 : ∀ n x, (x / 2) &&& zm8 85 n = zb8 (fun b => b / 2 &&& 85) n x
  | 0, x => Nat.and_zero _
  | n + 1, x => by
    have by1 : ∀ b, b < 256 → ∀ t, t < 2 → (b / 2 + 128 * t) &&& 85 = b / 2 &&& 85 := by decide +kernel
    have hb := Nat.mod_lt x (show 0 < 256 by decide)
    have ht := Nat.mod_lt (x / 256) (show 0 < 2 by decide)
    have e : x / 2 = (x % 256 / 2 + 128 * (x / 256 % 2)) + 256 * (x / 256 / 2) := by omega
    rw [e]
    unfold zm8 zb8
    rw [zand8 (by omega) (by decide), by1 _ hb _ ht, zb8_a1 n]
theorem zb8_a2 : ∀ n x, (x / 4) &&& zm8 51 n = zb8 (fun b => b / 4 &&& 51) n x
  | 0, x => Nat.and_zero _
  | n + 1, x => by
    have by1 : ∀ b, b < 256 → ∀ t, t < 4 → (b / 4 + 64 * t) &&& 51 = b / 4 &&& 51 := by decide +kernel
    have hb := Nat.mod_lt x (show 0 < 256 by decide)
    have ht := Nat.mod_lt (x / 256) (show 0 < 4 by decide)
    have e : x / 4 = (x % 256 / 4 + 64 * (x / 256 % 4)) + 256 * (x / 256 / 4) := by omega
    rw [e]
    unfold zm8 zb8
    rw [zand8 (by omega) (by decide), by1 _ hb _ ht, zb8_a2 n]
theorem zb8_a3 : ∀ n x, x &&& zm8 51 n = zb8 (fun b => b &&& 51) n x
  | 0, x => Nat.and_zero _
  | n + 1, x => by
    have hb := Nat.mod_lt x (show 0 < 256 by decide)
    have e : x = x % 256 + 256 * (x / 256) := by omega
    unfold zm8 zb8
    rw [← zb8_a3 n, ← zand8 hb (by decide), ← e]
theorem zb8_a4 {g : Nat → Nat} (h : ∀ b, b < 256 → g b ≤ 68 ∧ g b % 16 ≤ 4) : ∀ n x, (zb8 g n x + zb8 g n x / 16) &&& zm8 15 n = zb8 (fun b => (g b + g b / 16) &&& 15) n x
  | 0, x => Nat.and_zero _
  | n + 1, x => by
    have by1 : ∀ b, b < 69 → ∀ t, t < 5 → (b + b / 16 + 16 * t) &&& 15 = (b + b / 16) &&& 15 := by decide +kernel
    have hb := h _ (Nat.mod_lt x (show 0 < 256 by decide))
    have lo : zb8 g n (x / 256) % 16 < 5 := by
      cases n with
      | zero => exact (by decide : 0 % 16 < 5)
      | succ k =>
        have hc := (h _ (Nat.mod_lt (x / 256) (show 0 < 256 by decide))).2
        unfold zb8
        omega
    have e : (g (x % 256) + 256 * zb8 g n (x / 256)) + (g (x % 256) + 256 * zb8 g n (x / 256)) / 16 = (g (x % 256) + g (x % 256) / 16 + 16 * (zb8 g n (x / 256) % 16)) + 256 * (zb8 g n (x / 256) + zb8 g n (x / 256) / 16) := by omega
    show ((g (x % 256) + 256 * zb8 g n (x / 256)) + (g (x % 256) + 256 * zb8 g n (x / 256)) / 16) &&& (15 + 256 * zm8 15 n) = ((g (x % 256) + g (x % 256) / 16) &&& 15) + 256 * zb8 _ n (x / 256)
    rw [e, zand8 (by omega) (by decide), by1 _ (by omega) _ lo, zb8_a4 h n]
theorem zbc_8 (x : Nat) : ∀ n, zbc x (8 + n) = zbc (x % 256) 8 + zbc (x / 256) n
  | 0 => by
    have tb : ∀ i, i < 8 → (x % 256).testBit i = x.testBit i := fun i hi => by
      rw [show 256 = 2 ^ 8 from rfl, Nat.testBit_mod_two_pow, decide_eq_true hi, Bool.true_and]
    show zbc x 8 = zbc (x % 256) 8 + 0
    unfold zbc zbc zbc zbc zbc zbc zbc zbc zbc
    rw [tb 0 (by decide), tb 1 (by decide), tb 2 (by decide), tb 3 (by decide), tb 4 (by decide), tb 5 (by decide), tb 6 (by decide), tb 7 (by decide)]
    rfl
  | n + 1 => by
    show zbc x (8 + n) + (x.testBit (8 + n)).toNat = zbc (x % 256) 8 + (zbc (x / 256) n + ((x / 256).testBit n).toNat)
    rw [zbc_8 x n, show 256 = 2 ^ 8 from rfl, Nat.testBit_div_two_pow, Nat.add_comm n 8, Nat.add_assoc]
def zg1 (b : Nat) : Nat := b - (b / 2 &&& 85)
def zg2 (b : Nat) : Nat := (zg1 b &&& 51) + (zg1 b / 4 &&& 51)
theorem zg_all : ∀ b, b < 256 → (zg1 b < 256 ∧ zg1 b + (b / 2 &&& 85) = b) ∧ (zg2 b ≤ 68 ∧ zg2 b % 16 ≤ 4) ∧ (zg2 b + zg2 b / 16) &&& 15 = zbc b 8 ∧ zbc b 8 ≤ 8 := by decide +kernel
theorem zsum8 {a b c d e f g i w : Nat} (ha : a ≤ 8) (hb : b ≤ 8) (hc : c ≤ 8) (hd : d ≤ 8) (he : e ≤ 8) (hf : f ≤ 8) (hg : g ≤ 8) (hi : i ≤ 8) (hw : w = a + 256 * (b + 256 * (c + 256 * (d + 256 * (e + 256 * (f + 256 * (g + 256 * (i + 256 * 0)))))))) : (w < 18446744073709551616 ∧ w + w / 256 < 18446744073709551616 ∧ w + w / 256 + (w + w / 256) / 65536 < 18446744073709551616) ∧ (w + w / 256 + (w + w / 256) / 65536 + (w + w / 256 + (w + w / 256) / 65536) / 4294967296) % 128 = a + b + c + d + e + f + g + i := by
  have e1 : w / 256 = b + 256 * (c + 256 * (d + 256 * (e + 256 * (f + 256 * (g + 256 * i))))) := by omega
  have e2 : (w + w / 256) / 65536 = (c + d) + 256 * ((d + e) + 256 * ((e + f) + 256 * ((f + g) + 256 * ((g + i) + 256 * i)))) := by omega
  have e3 : (w + w / 256 + (w + w / 256) / 65536) / 4294967296 = (e + f + g + i) + 256 * ((f + g + i) + 256 * ((g + i) + 256 * i)) := by omega
  refine ⟨⟨by omega, by omega, by omega⟩, ?_⟩
  rw [e3, e2, e1]
  omega
section
variable {L : Nat} {xs : Nat → Int32} {h : zH} {m : zMm}
theorem s0 (hx : zFx h) {M : Nat} (hM : M < 18446744073709551616) : zCl (zPr L xs) 0 [.long (nL M)] (zMH h m) = some (.inl (some (.int (nI (zbc M 64)))), zMH h m) := by
  have x1 : M - (M / 2 &&& 6148914691236517205) = zb8 zg1 8 M := by
    have e : zb8 zg1 8 M + zb8 (fun b => b / 2 &&& 85) 8 M = M := by
      rw [zb8_add, zb8_cg (g := fun b => b) (fun b hb => (zg_all b hb).1.2)]
      exact zb8_id 8 M hM
    have e2 : M / 2 &&& 6148914691236517205 = zb8 (fun b => b / 2 &&& 85) 8 M := zb8_a1 8 M
    omega
  have le1 : (M / 2 &&& 6148914691236517205) ≤ M := Nat.le_trans Nat.and_le_left (Nat.div_le_self _ _)
  obtain ⟨y1, h1⟩ : ∃ y, y = M - (M / 2 &&& 6148914691236517205) := ⟨_, rfl⟩
  have b1 : y1 < 18446744073709551616 := by omega
  have x2 : (y1 &&& 3689348814741910323) + (y1 / 4 &&& 3689348814741910323) = zb8 zg2 8 M := by
    have e1 : y1 &&& 3689348814741910323 = zb8 (fun b => b &&& 51) 8 y1 := zb8_a3 8 y1
    have e2 : y1 / 4 &&& 3689348814741910323 = zb8 (fun b => b / 4 &&& 51) 8 y1 := zb8_a2 8 y1
    rw [e1, e2, h1, x1, zb8_co (fun b hb => (zg_all b hb).1.1), zb8_co (fun b hb => (zg_all b hb).1.1), zb8_add]
    rfl
  obtain ⟨y2, h2⟩ : ∃ y, y = (y1 &&& 3689348814741910323) + (y1 / 4 &&& 3689348814741910323) := ⟨_, rfl⟩
  have b2 : y2 < 18446744073709551616 := by
    have q1 : (y1 &&& 3689348814741910323) ≤ 3689348814741910323 := Nat.and_le_right
    have q2 : (y1 / 4 &&& 3689348814741910323) ≤ 3689348814741910323 := Nat.and_le_right
    omega
  have x3 : (y2 + y2 / 16) &&& 1085102592571150095 = zb8 (fun b => zbc b 8) 8 M := by
    have e1 := zb8_a4 (g := zg2) (fun b hb => (zg_all b hb).2.1) 8 M
    rw [← x2, ← h2] at e1
    refine Eq.trans e1 (zb8_cg (fun b hb => (zg_all b hb).2.2.1) 8 M)
  obtain ⟨y3, h3⟩ : ∃ y, y = (y2 + y2 / 16) &&& 1085102592571150095 := ⟨_, rfl⟩
  have lt : ∀ x, zbc (x % 256) 8 ≤ 8 := fun x => (zg_all _ (Nat.mod_lt x (by decide))).2.2.2
  have S := zsum8 (w := y3) (lt M) (lt (M / 256)) (lt (M / 256 / 256)) (lt (M / 256 / 256 / 256)) (lt (M / 256 / 256 / 256 / 256)) (lt (M / 256 / 256 / 256 / 256 / 256)) (lt (M / 256 / 256 / 256 / 256 / 256 / 256)) (lt (M / 256 / 256 / 256 / 256 / 256 / 256 / 256)) (h3.trans x3)
  have T : zbc M 64 = zbc (M % 256) 8 + zbc (M / 256 % 256) 8 + zbc (M / 256 / 256 % 256) 8 + zbc (M / 256 / 256 / 256 % 256) 8 + zbc (M / 256 / 256 / 256 / 256 % 256) 8 + zbc (M / 256 / 256 / 256 / 256 / 256 % 256) 8 + zbc (M / 256 / 256 / 256 / 256 / 256 / 256 % 256) 8 + zbc (M / 256 / 256 / 256 / 256 / 256 / 256 / 256 % 256) 8 := by
    have a1 := zbc_8 M 56
    have a2 := zbc_8 (M / 256) 48
    have a3 := zbc_8 (M / 256 / 256) 40
    have a4 := zbc_8 (M / 256 / 256 / 256) 32
    have a5 := zbc_8 (M / 256 / 256 / 256 / 256) 24
    have a6 := zbc_8 (M / 256 / 256 / 256 / 256 / 256) 16
    have a7 := zbc_8 (M / 256 / 256 / 256 / 256 / 256 / 256) 8
    have a8 := zbc_8 (M / 256 / 256 / 256 / 256 / 256 / 256 / 256) 0
    have z0 : ∀ x, zbc x 0 = 0 := fun _ => rfl
    rw [z0] at a8
    have e : zbc M (8 + 56) = zbc M 64 := rfl
    omega
  rw [en_0]
  have w1 := p0_0_1 (L := L) (xs := xs) (h := h) (m := m) (p := nL M) hx
  rw [zl_us hM (k := 1) (by decide), zl_and, zl_sub le1, show M / 2 ^ 1 = M / 2 from rfl, ← h1] at w1
  have w2 := p0_10_1 (L := L) (xs := xs) (h := h) (m := m) (p := nL y1) hx
  rw [zl_us b1 (k := 2) (by decide), zl_and, zl_and, zl_add, show y1 / 2 ^ 2 = y1 / 4 from rfl, ← h2] at w2
  have w3 := p0_24_1 (L := L) (xs := xs) (h := h) (m := m) (p := nL y2) hx
  rw [zl_us b2 (k := 4) (by decide), zl_add, zl_and, show y2 / 2 ^ 4 = y2 / 16 from rfl, ← h3] at w3
  have w4 := p0_34_1 (L := L) (xs := xs) (h := h) (m := m) (p := nL y3) hx
  rw [zl_us S.1.1 (k := 8) (by decide), zl_add, show y3 / 2 ^ 8 = y3 / 256 from rfl] at w4
  have w5 := p0_41_1 (L := L) (xs := xs) (h := h) (m := m) (p := nL (y3 + y3 / 256)) hx
  rw [zl_us S.1.2.1 (k := 16) (by decide), zl_add, show (y3 + y3 / 256) / 2 ^ 16 = (y3 + y3 / 256) / 65536 from rfl] at w5
  have w6 := p0_48_1 (L := L) (xs := xs) (h := h) (m := m) (p := nL (y3 + y3 / 256 + (y3 + y3 / 256) / 65536)) hx
  rw [zl_us S.1.2.2 (k := 32) (by decide), zl_add, show (y3 + y3 / 256 + (y3 + y3 / 256) / 65536) / 2 ^ 32 = (y3 + y3 / 256 + (y3 + y3 / 256) / 65536) / 4294967296 from rfl] at w6
  have w7 := p0_55_1 (L := L) (xs := xs) (h := h) (m := m) (p := nL (y3 + y3 / 256 + (y3 + y3 / 256) / 65536 + (y3 + y3 / 256 + (y3 + y3 / 256) / 65536) / 4294967296)) hx
  have n7 : ∀ a, (nL a).toInt32 &&& nI 127 = nI (a % 128) := fun a => by
    rw [show (nL a).toInt32 = nI a from Int64.toInt32_ofNat', zi_and, show a &&& 127 = a % 128 from Nat.and_two_pow_sub_one_eq_mod a 7]
  rw [n7, S.2, ← T] at w7
  exact w1.trans (w2.trans (w3.trans (w4.trans (w5.trans (w6.trans w7)))))
end
