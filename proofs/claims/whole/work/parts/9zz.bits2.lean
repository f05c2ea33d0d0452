/-! ===== paths of bitCount (printed by wip/whole/gen/cls.py) ===== -/
theorem p0_0_1 {L : Nat} {xs : Nat → Int32} {h : zH} {m : zMm} {p : Int64}  (hx : zFx h) : zEv (zPr L xs) 0 0 0 [.val (.long p), .second] [] (zMH h m) = zEv (zPr L xs) 0 0 10 [.val (.long (p - (((((p.toUInt64 >>> (((nI 1)).toInt64.toUInt64 &&& Int64.toUInt64 63)).toInt64)) &&& ((nL 6148914691236517205)))))), .second] [] (zMH h m) := Eq.trans (zEv_go lk_0_0 rfl) (Eq.trans (zEv_go lk_0_1 rfl) (Eq.trans (zEv_go lk_0_2 rfl) (Eq.trans (zEv_go lk_0_3 rfl) (Eq.trans (zEv_go lk_0_4 rfl) (Eq.trans (zEv_go lk_0_7 rfl) (Eq.trans (zEv_go lk_0_8 rfl) (k_lstore lk_0_9 rfl)))))))
theorem p0_10_1 {L : Nat} {xs : Nat → Int32} {h : zH} {m : zMm} {p : Int64}  (hx : zFx h) : zEv (zPr L xs) 0 0 10 [.val (.long p), .second] [] (zMH h m) = zEv (zPr L xs) 0 0 24 [.val (.long (((p &&& ((nL 3689348814741910323)))) + (((((p.toUInt64 >>> (((nI 2)).toInt64.toUInt64 &&& Int64.toUInt64 63)).toInt64)) &&& ((nL 3689348814741910323)))))), .second] [] (zMH h m) := Eq.trans (zEv_go lk_0_10 rfl) (Eq.trans (zEv_go lk_0_11 rfl) (Eq.trans (zEv_go lk_0_14 rfl) (Eq.trans (zEv_go lk_0_15 rfl) (Eq.trans (zEv_go lk_0_16 rfl) (Eq.trans (zEv_go lk_0_17 rfl) (Eq.trans (zEv_go lk_0_18 rfl) (Eq.trans (zEv_go lk_0_21 rfl) (Eq.trans (zEv_go lk_0_22 rfl) (k_lstore lk_0_23 rfl)))))))))
theorem p0_24_1 {L : Nat} {xs : Nat → Int32} {h : zH} {m : zMm} {p : Int64}  (hx : zFx h) : zEv (zPr L xs) 0 0 24 [.val (.long p), .second] [] (zMH h m) = zEv (zPr L xs) 0 0 34 [.val (.long (((p + (((p.toUInt64 >>> (((nI 4)).toInt64.toUInt64 &&& Int64.toUInt64 63)).toInt64)))) &&& ((nL 1085102592571150095)))), .second] [] (zMH h m) := Eq.trans (zEv_go lk_0_24 rfl) (Eq.trans (zEv_go lk_0_25 rfl) (Eq.trans (zEv_go lk_0_26 rfl) (Eq.trans (zEv_go lk_0_27 rfl) (Eq.trans (zEv_go lk_0_28 rfl) (Eq.trans (zEv_go lk_0_29 rfl) (Eq.trans (zEv_go lk_0_32 rfl) (k_lstore lk_0_33 rfl)))))))
theorem p0_34_1 {L : Nat} {xs : Nat → Int32} {h : zH} {m : zMm} {p : Int64}  (hx : zFx h) : zEv (zPr L xs) 0 0 34 [.val (.long p), .second] [] (zMH h m) = zEv (zPr L xs) 0 0 41 [.val (.long (p + (((p.toUInt64 >>> (((nI 8)).toInt64.toUInt64 &&& Int64.toUInt64 63)).toInt64)))), .second] [] (zMH h m) := Eq.trans (zEv_go lk_0_34 rfl) (Eq.trans (zEv_go lk_0_35 rfl) (Eq.trans (zEv_go lk_0_36 rfl) (Eq.trans (zEv_go lk_0_38 rfl) (Eq.trans (zEv_go lk_0_39 rfl) (k_lstore lk_0_40 rfl)))))
theorem p0_41_1 {L : Nat} {xs : Nat → Int32} {h : zH} {m : zMm} {p : Int64}  (hx : zFx h) : zEv (zPr L xs) 0 0 41 [.val (.long p), .second] [] (zMH h m) = zEv (zPr L xs) 0 0 48 [.val (.long (p + (((p.toUInt64 >>> (((nI 16)).toInt64.toUInt64 &&& Int64.toUInt64 63)).toInt64)))), .second] [] (zMH h m) := Eq.trans (zEv_go lk_0_41 rfl) (Eq.trans (zEv_go lk_0_42 rfl) (Eq.trans (zEv_go lk_0_43 rfl) (Eq.trans (zEv_go lk_0_45 rfl) (Eq.trans (zEv_go lk_0_46 rfl) (k_lstore lk_0_47 rfl)))))
theorem p0_48_1 {L : Nat} {xs : Nat → Int32} {h : zH} {m : zMm} {p : Int64}  (hx : zFx h) : zEv (zPr L xs) 0 0 48 [.val (.long p), .second] [] (zMH h m) = zEv (zPr L xs) 0 0 55 [.val (.long (p + (((p.toUInt64 >>> (((nI 32)).toInt64.toUInt64 &&& Int64.toUInt64 63)).toInt64)))), .second] [] (zMH h m) := Eq.trans (zEv_go lk_0_48 rfl) (Eq.trans (zEv_go lk_0_49 rfl) (Eq.trans (zEv_go lk_0_50 rfl) (Eq.trans (zEv_go lk_0_52 rfl) (Eq.trans (zEv_go lk_0_53 rfl) (k_lstore lk_0_54 rfl)))))
theorem p0_55_1 {L : Nat} {xs : Nat → Int32} {h : zH} {m : zMm} {p : Int64}  (hx : zFx h) : zEv (zPr L xs) 0 0 55 [.val (.long p), .second] [] (zMH h m) = some (.inl (some (.int (p.toInt32 &&& ((nI 127))))), zMH h m) := Eq.trans (zEv_go lk_0_55 rfl) (Eq.trans (zEv_go lk_0_56 rfl) (Eq.trans (zEv_go lk_0_57 rfl) (Eq.trans (zEv_go lk_0_59 rfl) (k_iret lk_0_60 rfl))))
section
variable {L : Nat} {xs : Nat → Int32} {h : zH} {m : zMm}
theorem s0 (hx : zFx h) {M : Nat} (hM : M < 18446744073709551616) : zCl (zPr L xs) 0 [.long (nL M)] (zMH h m) = some (.inl (some (.int (nI (zbc M 64)))), zMH h m) := by
  have x1 : M - (M / 2 &&& 6148914691236517205) = zy8 zg1 8 M := by
    have e : zy8 zg1 8 M + zy8 (fun b => b / 2 &&& 85) 8 M = M := by
      rw [zy8_add, zy8_cg (g := fun b => b) (fun b hb => (zg_all b hb).1.2)]
      exact zy8_id 8 M hM
    have e2 := zy8_a1 8 M
    rw [zy_c5] at e2
    omega
  have le1 : (M / 2 &&& 6148914691236517205) ≤ M := Nat.le_trans Nat.and_le_left (Nat.div_le_self _ _)
  obtain ⟨y1, h1⟩ : ∃ y, y = M - (M / 2 &&& 6148914691236517205) := ⟨_, rfl⟩
  have b1 : y1 < 18446744073709551616 := by omega
  have x2 : (y1 &&& 3689348814741910323) + (y1 / 4 &&& 3689348814741910323) = zy8 zg2 8 M := by
    have e1 := zy8_a3 8 y1
    have e2 := zy8_a2 8 y1
    rw [zy_c3] at e1 e2
    rw [e1, e2, h1, x1, zy8_co (fun b hb => (zg_all b hb).1.1), zy8_co (fun b hb => (zg_all b hb).1.1), zy8_add]
    rfl
  obtain ⟨y2, h2⟩ : ∃ y, y = (y1 &&& 3689348814741910323) + (y1 / 4 &&& 3689348814741910323) := ⟨_, rfl⟩
  have b2 : y2 < 18446744073709551616 := by
    have q1 : (y1 &&& 3689348814741910323) ≤ 3689348814741910323 := Nat.and_le_right
    have q2 : (y1 / 4 &&& 3689348814741910323) ≤ 3689348814741910323 := Nat.and_le_right
    omega
  have x3 : (y2 + y2 / 16) &&& 1085102592571150095 = zy8 (fun b => zbc b 8) 8 M := by
    have e1 := zy8_a4 (g := zg2) (fun b hb => (zg_all b hb).2.1) 8 M
    rw [← x2, ← h2, zy_cf] at e1
    refine Eq.trans e1 (zy8_cg (fun b hb => (zg_all b hb).2.2.1) 8 M)
  obtain ⟨y3, h3⟩ : ∃ y, y = (y2 + y2 / 16) &&& 1085102592571150095 := ⟨_, rfl⟩
  have lt : ∀ x, zbc (x % 256) 8 ≤ 8 := fun x => (zg_all _ (Nat.mod_lt x (by decide))).2.2.2
  have S := zsum8 (w := y3) (lt M) (lt (M / 256)) (lt (M / 256 / 256)) (lt (M / 256 / 256 / 256)) (lt (M / 256 / 256 / 256 / 256)) (lt (M / 256 / 256 / 256 / 256 / 256)) (lt (M / 256 / 256 / 256 / 256 / 256 / 256)) (lt (M / 256 / 256 / 256 / 256 / 256 / 256 / 256)) (h3.trans x3)
  have T : zbc M 64 = zbc (M % 256) 8 + zbc (M / 256 % 256) 8 + zbc (M / 256 / 256 % 256) 8 + zbc (M / 256 / 256 / 256 % 256) 8 + zbc (M / 256 / 256 / 256 / 256 % 256) 8 + zbc (M / 256 / 256 / 256 / 256 / 256 % 256) 8 + zbc (M / 256 / 256 / 256 / 256 / 256 / 256 % 256) 8 + zbc (M / 256 / 256 / 256 / 256 / 256 / 256 / 256 % 256) 8 := by
    have ex : ∀ n k x, 8 + n = k → zbc x k = zbc (x % 256) 8 + zbc (x / 256) n := fun n k x e => by rw [← e]; exact zbc_8 x n
    rw [ex 56 64 M rfl, ex 48 56 (M / 256) rfl, ex 40 48 (M / 256 / 256) rfl, ex 32 40 (M / 256 / 256 / 256) rfl, ex 24 32 (M / 256 / 256 / 256 / 256) rfl, ex 16 24 (M / 256 / 256 / 256 / 256 / 256) rfl, ex 8 16 (M / 256 / 256 / 256 / 256 / 256 / 256) rfl, ← zbc_m (M / 256 / 256 / 256 / 256 / 256 / 256 / 256) 8 (Nat.le_refl _)]
    simp only [Nat.add_assoc]
  rw [en_0]
  have w1 := p0_0_1 (L := L) (xs := xs) (h := h) (m := m) (p := nL M) hx
  rw [zl_us1 hM, zl_and, zl_sub le1, ← h1] at w1
  have w2 := p0_10_1 (L := L) (xs := xs) (h := h) (m := m) (p := nL y1) hx
  rw [zl_us2 b1, zl_and, zl_and, zl_add, ← h2] at w2
  have w3 := p0_24_1 (L := L) (xs := xs) (h := h) (m := m) (p := nL y2) hx
  rw [zl_us4 b2, zl_add, zl_and, ← h3] at w3
  have w4 := p0_34_1 (L := L) (xs := xs) (h := h) (m := m) (p := nL y3) hx
  rw [zl_us8 S.1.1, zl_add] at w4
  have w5 := p0_41_1 (L := L) (xs := xs) (h := h) (m := m) (p := nL (y3 + y3 / 256)) hx
  rw [zl_us16 S.1.2.1, zl_add] at w5
  have w6 := p0_48_1 (L := L) (xs := xs) (h := h) (m := m) (p := nL (y3 + y3 / 256 + (y3 + y3 / 256) / 65536)) hx
  rw [zl_us32 S.1.2.2, zl_add] at w6
  have w7 := p0_55_1 (L := L) (xs := xs) (h := h) (m := m) (p := nL (y3 + y3 / 256 + (y3 + y3 / 256) / 65536 + (y3 + y3 / 256 + (y3 + y3 / 256) / 65536) / 4294967296)) hx
  have n7 : ∀ a, (nL a).toInt32 &&& nI 127 = nI (a % 128) := fun a => by
    rw [show (nL a).toInt32 = nI a from Int64.toInt32_ofNat', zi_and, show a &&& 127 = a % 128 from Nat.and_two_pow_sub_one_eq_mod a 7]
  rw [n7, S.2, ← T] at w7
  exact w1.trans (w2.trans (w3.trans (w4.trans (w5.trans (w6.trans w7)))))
end
