/-! ===== the reference's search for one place; the word of a command ===== -/
section
variable {L : Nat} {xs : Nat → Int32} {h : zH} {m : zMm} {c : Nat → Nat}
theorem zFx_sL {h : zH} (hx : zFx h) (g a i : Nat) (x : Int64) : zFx (zsL h g a i x) := hx
theorem s115 (hx : zFx h) (hl : zLC m c) {n : Nat} (hn : n ≤ 40) (hv : n ≠ 0 → zVB m) (hp : znp m ≤ 40) (h64 : m 534 132 0 ≤ 64) (hb : m 522 132 0 = 0) (hw : m 523 132 0 ≤ 1) (hj : n ≠ 0 → ∃ j, zmt m n = some j) (hok : n ≠ 0 → zks c (zenv m c) 130 true 0 (m 534 132 0) ≠ none) :
    match zks c (zenv m c) 130 true 0 (m 534 132 0) with
    | none => ∃ (m' : zMm) (x : Nat), zCl (zPr L xs) 115 [.ref 132, .int (nI n)] (zMH h m) = some (.inl (some (.int (nI x))), zMH h m') ∧ x < 2 ∧ m' 522 132 0 = 1 ∧ zfr zfS m m'
    | some (e, w, k) => ∃ (m' : zMm) (b : Bool), zCl (zPr L xs) 115 [.ref 132, .int (nI n)] (zMH h m) = some (.inl (some (.int (nI b.toNat))), zMH h m') ∧ zfr zfS m m' ∧ m' 521 132 0 = e ∧ e ≤ 64 ∧ m' 522 132 0 = (if e < m 0 148 (m 520 132 0) then 1 else 0) ∧ m' 523 132 0 = (if w then 1 else m 523 132 0) ∧ (n ≠ 0 → b = k n) := by
  have F0 : zfr zfS m (u3 (u3 m 521 132 0 (m 534 132 0)) 535 132 0 4294967295) := zfr_u (zfr_u (zfr_rf _ _) (by decide)) (by decide)
  have hl0 := zLC_fr hl F0
  obtain ⟨m1, e1, f1, g1, g2, g3, g4, -⟩ := s112 (L := L) (xs := xs) (k := 0) (t := 0) hx hl0 (by show nI 4294967295 + nI 1 = nI 0; decide) (by decide) (by decide)
  have F1 : zfr zfS m m1 := zfr_tr F0 f1 (fun _ q => q) (by decide)
  have hl1 := zLC_fr hl F1
  rw [if_neg (by decide)] at g4
  have at1 : m1 521 132 0 = m 534 132 0 := f1 _ _ _ (by decide)
  have b1 : m1 522 132 0 = 0 := (f1 _ _ _ (by decide)).trans hb
  have w1 : m1 523 132 0 = m 523 132 0 := f1 _ _ _ (by decide)
  have en := zenv_fr (c := c) F1
  have hk : zKc c n m1 0 (m 534 132 0) := ⟨hl1, fun q => zVB_fr (hv q) F1, by rw [en.2.2.2]; exact hp, at1, h64, b1, by rw [w1]; exact hw, g1, fun q => by rw [en.2.1]; exact hj q, by rw [g4]; decide⟩
  rw [en_115, p115_0_1 hx hl e1, zHead hx hl1]
  have sub := (zKall (L := L) (xs := xs) (c := c) hx hn 130).2 m1 0 (m 534 132 0) true (.val (.int (nI true.toNat))) .unset .unset .unset .unset hk (by decide) (Or.inl g2) g4 (by decide) (by decide) (by decide) (by decide) (by omega) (fun q => by rw [en.1]; exact hok q)
  rw [en.1] at sub
  cases hs : zks c (zenv m c) 130 true 0 (m 534 132 0) with
  | none =>
    rw [hs] at sub
    obtain ⟨mf, x, q1, q2, q3, q4⟩ := sub
    exact ⟨mf, x, q1, q2, q3, zfr_tr F1 q4 (fun _ q => q) (fun _ q => q)⟩
  | some r =>
    obtain ⟨e, w, k⟩ := r
    rw [hs] at sub
    obtain ⟨m2, v, b', ⟨y2, y3, ra, rb, hy2, hy3, hrb, eq, F2, r1, r2, r3, r4, r5⟩, kp2, hh2, hne, hval⟩ := sub
    have F12 : zfr zfS m m2 := zfr_tr F1 F2 (fun _ q => q) (fun _ q => q)
    have hl2 := zLC_fr hl F12
    have R := zRi_and (L := L) (xs := xs) (h := h) (v := v) (b := b') (w1 := ra) (w3 := rb) (t := 0) hx hl2 r3 (by omega) r5 (by decide) (by rw [(kp2 0 (Nat.le_refl _)).1]; exact g2) hh2 (by rw [r1]; exact hne) hrb
    have hse : m2 520 132 0 = m 520 132 0 := F12 _ _ _ (by decide)
    have hll : m2 0 148 (m2 520 132 0) = m 0 148 (m 520 132 0) := by rw [hse]; exact F12 _ _ _ (by decide)
    rw [hll, r1] at R
    let m3 := u3 (u3 m2 0 153 0 (b' && v).toNat) 522 132 0 (if e < m 0 148 (m 520 132 0) then 1 else 0)
    have F3 : zfr zfS m m3 := zfr_u (zfr_u F12 (by decide)) (by decide)
    have hl3 := zLC_fr hl F3
    have h3 : m3 0 153 0 = (b' && v).toNat := by show u3 (u3 m2 0 153 0 _) 522 132 0 _ 0 153 0 = _; rw [u3_g (by decide), u3_eq]
    refine ⟨m3, b' && v, ?_, F3, r1, r2, u3_eq _ _ _ _ _, ?_, fun q => ?_⟩
    · rw [eq, R, ← h3]
      exact zFR_f (m := m3) hx hl3 hy2 hy3 (by rw [h3]; cases (b' && v) <;> decide)
    · show m2 523 132 0 = _
      rw [r4, w1]
    · rw [hval q, Bool.true_and]
/-- the kind of a command by its word -/
def zcmd (x : Nat) : Nat := if x = 15551954944 then 1 else if x = 3640235008 then 2 else if x = 6191495397 then 3 else if x = 13396072064 then 4 else if x = 3830501536 then 5 else if x = 4475506848 then 6 else if x = 20581617280 then 7 else if x = 6175499717 then 8 else if x = 1627568256 then 9 else if x = 21088506880 then 10 else if x = 6631301120 then 11 else if x = 3742138368 then 12 else if x = 20570508544 then 13 else 0
theorem s116 (hx : zFx h) (hl : zLC m c) {x : Nat} (hw : x < 18446744073709551616) : zCl (zPr L xs) 116 [.ref 132, .long (nL x)] (zMH h m) = some (.inl (some (.int (nI (zcmd x)))), zMH h m) := by
  rw [en_116]
  unfold zcmd
  by_cases n1 : x = 15551954944
  · rw [if_pos n1]; exact p116_0_1 hx hl  (zl_eq n1)
  rw [if_neg n1]
  by_cases n2 : x = 3640235008
  · rw [if_pos n2]; exact p116_0_2 hx hl (zl_ne hw (by decide) n1) (zl_eq n2)
  rw [if_neg n2]
  by_cases n3 : x = 6191495397
  · rw [if_pos n3]; exact p116_0_3 hx hl (zl_ne hw (by decide) n1) (zl_ne hw (by decide) n2) (zl_eq n3)
  rw [if_neg n3]
  by_cases n4 : x = 13396072064
  · rw [if_pos n4]; exact p116_0_4 hx hl (zl_ne hw (by decide) n1) (zl_ne hw (by decide) n2) (zl_ne hw (by decide) n3) (zl_eq n4)
  rw [if_neg n4]
  by_cases n5 : x = 3830501536
  · rw [if_pos n5]; exact p116_0_5 hx hl (zl_ne hw (by decide) n1) (zl_ne hw (by decide) n2) (zl_ne hw (by decide) n3) (zl_ne hw (by decide) n4) (zl_eq n5)
  rw [if_neg n5]
  by_cases n6 : x = 4475506848
  · rw [if_pos n6]; exact p116_0_6 hx hl (zl_ne hw (by decide) n1) (zl_ne hw (by decide) n2) (zl_ne hw (by decide) n3) (zl_ne hw (by decide) n4) (zl_ne hw (by decide) n5) (zl_eq n6)
  rw [if_neg n6]
  by_cases n7 : x = 20581617280
  · rw [if_pos n7]; exact p116_0_7 hx hl (zl_ne hw (by decide) n1) (zl_ne hw (by decide) n2) (zl_ne hw (by decide) n3) (zl_ne hw (by decide) n4) (zl_ne hw (by decide) n5) (zl_ne hw (by decide) n6) (zl_eq n7)
  rw [if_neg n7]
  by_cases n8 : x = 6175499717
  · rw [if_pos n8]; exact p116_0_8 hx hl (zl_ne hw (by decide) n1) (zl_ne hw (by decide) n2) (zl_ne hw (by decide) n3) (zl_ne hw (by decide) n4) (zl_ne hw (by decide) n5) (zl_ne hw (by decide) n6) (zl_ne hw (by decide) n7) (zl_eq n8)
  rw [if_neg n8]
  by_cases n9 : x = 1627568256
  · rw [if_pos n9]; exact p116_0_9 hx hl (zl_ne hw (by decide) n1) (zl_ne hw (by decide) n2) (zl_ne hw (by decide) n3) (zl_ne hw (by decide) n4) (zl_ne hw (by decide) n5) (zl_ne hw (by decide) n6) (zl_ne hw (by decide) n7) (zl_ne hw (by decide) n8) (zl_eq n9)
  rw [if_neg n9]
  by_cases n10 : x = 21088506880
  · rw [if_pos n10]; exact p116_0_10 hx hl (zl_ne hw (by decide) n1) (zl_ne hw (by decide) n2) (zl_ne hw (by decide) n3) (zl_ne hw (by decide) n4) (zl_ne hw (by decide) n5) (zl_ne hw (by decide) n6) (zl_ne hw (by decide) n7) (zl_ne hw (by decide) n8) (zl_ne hw (by decide) n9) (zl_eq n10)
  rw [if_neg n10]
  by_cases n11 : x = 6631301120
  · rw [if_pos n11]; exact p116_0_11 hx hl (zl_ne hw (by decide) n1) (zl_ne hw (by decide) n2) (zl_ne hw (by decide) n3) (zl_ne hw (by decide) n4) (zl_ne hw (by decide) n5) (zl_ne hw (by decide) n6) (zl_ne hw (by decide) n7) (zl_ne hw (by decide) n8) (zl_ne hw (by decide) n9) (zl_ne hw (by decide) n10) (zl_eq n11)
  rw [if_neg n11]
  by_cases n12 : x = 3742138368
  · rw [if_pos n12]; exact p116_0_12 hx hl (zl_ne hw (by decide) n1) (zl_ne hw (by decide) n2) (zl_ne hw (by decide) n3) (zl_ne hw (by decide) n4) (zl_ne hw (by decide) n5) (zl_ne hw (by decide) n6) (zl_ne hw (by decide) n7) (zl_ne hw (by decide) n8) (zl_ne hw (by decide) n9) (zl_ne hw (by decide) n10) (zl_ne hw (by decide) n11) (zl_eq n12)
  rw [if_neg n12]
  by_cases n13 : x = 20570508544
  · rw [if_pos n13]; exact p116_0_13 hx hl (zl_ne hw (by decide) n1) (zl_ne hw (by decide) n2) (zl_ne hw (by decide) n3) (zl_ne hw (by decide) n4) (zl_ne hw (by decide) n5) (zl_ne hw (by decide) n6) (zl_ne hw (by decide) n7) (zl_ne hw (by decide) n8) (zl_ne hw (by decide) n9) (zl_ne hw (by decide) n10) (zl_ne hw (by decide) n11) (zl_ne hw (by decide) n12) (zl_eq n13)
  rw [if_neg n13]
  exact p116_0_14 hx hl (zl_ne hw (by decide) n1) (zl_ne hw (by decide) n2) (zl_ne hw (by decide) n3) (zl_ne hw (by decide) n4) (zl_ne hw (by decide) n5) (zl_ne hw (by decide) n6) (zl_ne hw (by decide) n7) (zl_ne hw (by decide) n8) (zl_ne hw (by decide) n9) (zl_ne hw (by decide) n10) (zl_ne hw (by decide) n11) (zl_ne hw (by decide) n12) (zl_ne hw (by decide) n13)
end
