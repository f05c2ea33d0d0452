/-! ===== the reference reads: words, flags, texts, points, sets ===== -/
section
variable {L : Nat} {xs : Nat → Int32} {h : zH} {m : zMm} {c : Nat → Nat}
theorem zi_ex (x : Int32) : ∃ n, n < 4294967296 ∧ x = nI n := ⟨x.toBitVec.toNat, x.toBitVec.isLt, by
  apply Int32.toBitVec_inj.mp
  apply BitVec.eq_of_toNat_eq
  show _ = (BitVec.ofNat 32 x.toBitVec.toNat).toNat
  rw [BitVec.toNat_ofNat, Nat.mod_eq_of_lt x.toBitVec.isLt]⟩
theorem s96g (hx : zFx h) (hl : zLC m c) (ch : Nat) (ha : m 521 132 0 ≤ 99) (hch : ch < 127 := by omega) : ∃ m', zCl (zPr L xs) 96 [.ref 132, .int (nI ch)] (zMH h m) = some (.inl none, zMH h m') ∧ zfr [(521, 132), (522, 132)] m m' ∧ ((c (m 521 132 0) = ch ∧ m' 521 132 0 = m 521 132 0 + 1 ∧ m' 522 132 0 = m 522 132 0) ∨ (c (m 521 132 0) ≠ ch ∧ m' 521 132 0 = m 521 132 0 ∧ m' 522 132 0 = 1)) := by
  rw [en_96]
  by_cases c1 : c (m 521 132 0) = ch
  · exact ⟨_, p96_0_1 hx hl c1, zfr_u (zfr_rf _ _) (by decide), Or.inl ⟨c1, rfl, rfl⟩⟩
  · exact ⟨_, p96_0_2 hx hl c1, zfr_u (zfr_rf _ _) (by decide), Or.inr ⟨c1, rfl, rfl⟩⟩
theorem s96 (hx : zFx h) (hl : zLC m c) (ch : Nat) (ha : m 521 132 0 ≤ 64) (hch : ch < 127 := by omega) : ∃ m', zCl (zPr L xs) 96 [.ref 132, .int (nI ch)] (zMH h m) = some (.inl none, zMH h m') ∧ zfr [(521, 132), (522, 132)] m m' ∧ ((c (m 521 132 0) = ch ∧ m' 521 132 0 = m 521 132 0 + 1 ∧ m' 522 132 0 = m 522 132 0) ∨ (c (m 521 132 0) ≠ ch ∧ m' 521 132 0 = m 521 132 0 ∧ m' 522 132 0 = 1)) := s96g hx hl ch (by omega) hch
/-- a point -/
theorem s101 (hx : zFx h) (hl : zLC m c) (ha : m 521 132 0 ≤ 64) (hb : m 522 132 0 ≤ 1) : ∃ m', zCl (zPr L xs) 101 [.ref 132] (zMH h m) = some (.inl none, zMH h m') ∧ zfr [(521, 132), (522, 132)] m m' ∧ m 521 132 0 ≤ m' 521 132 0 ∧ m' 521 132 0 ≤ 65 ∧ m' 522 132 0 ≤ 1 ∧ (m 522 132 0 = 1 → m' 522 132 0 = 1) ∧ (m 522 132 0 = 0 → match zpt c (m 521 132 0) with
    | none => m' 522 132 0 = 1
    | some (_, e) => m' 522 132 0 = 0 ∧ m' 521 132 0 = e) := by
  have hc := hl.2.2
  rw [en_101]
  by_cases c1 : c (m 521 132 0) = 42
  · have h48 : m 521 132 0 < 48 := Nat.lt_of_not_le fun q => by rw [hc.1 _ q] at c1; cases c1
    refine ⟨_, p101_0_1 hx hl c1, zfr_u (zfr_rf _ _) (by decide), ?_, ?_, hb, fun q => q, fun q => ?_⟩
    · show m 521 132 0 ≤ m 521 132 0 + 1; omega
    · show m 521 132 0 + 1 ≤ 65; omega
    · rw [show zpt c (m 521 132 0) = some (none, m 521 132 0 + 1) from if_pos c1]; exact ⟨q, rfl⟩
  · rw [p101_0_2 hx hl c1]
    have hg := zre_ge hc (f := zdig) rfl (m 521 132 0)
    have loop : ∀ (p : Nat), p ≤ 64 → ∀ (m : zMm) (x1 : Nat), zLC m c → m 521 132 0 = p → zEv (zPr L xs) 1 101 29 [.val (.ref 132), .val (.int (nI x1))] [] (zMH h m) = zEv (zPr L xs) 1 101 29 [.val (.ref 132), .val (.int (nI x1))] [] (zMH h (u3 m 521 132 0 (zre zdig c p))) := by
      refine zrun_ind hc (f := zdig) rfl ?_ ?_
      · intro p hd hp ih h64 m x1 hl he
        rw [p101_29_1 (x1 := x1) hx hl (by rw [he]; exact hd), ih (by omega) _ x1 (zLC_fr hl (zfr_u (l := [(521, 132)]) (zfr_rf _ _) (by decide))) (by show m 521 132 0 + 1 = p + 1; omega), u3_u3, zre_t hc rfl hd]
      · intro p hd h64 m x1 hl he
        rw [zre_f hd, u3_self he]
    rw [loop (m 521 132 0) ha m (m 521 132 0) hl rfl]
    have hl2 : zLC (u3 m 521 132 0 (zre zdig c (m 521 132 0))) c := zLC_fr hl (zfr_u (l := [(521, 132)]) (zfr_rf _ _) (by decide))
    have h64 : zre zdig c (m 521 132 0) ≤ 64 := by
      by_cases q : m 521 132 0 ≤ 48
      · have := hg.2.1 q; omega
      · rw [zre_f (by rw [hc.1 _ (by omega)]; rfl)]; exact ha
    have hd : zdig (c (zre zdig c (m 521 132 0))) = false := hg.2.2
    have fr : ∀ x, zfr [(521, 132), (522, 132)] m (u3 (u3 m 521 132 0 (zre zdig c (m 521 132 0))) 522 132 0 x) := fun x => zfr_u (zfr_u (zfr_rf _ _) (by decide)) (by decide)
    have hpt : zpt c (m 521 132 0) = if m 521 132 0 < zre zdig c (m 521 132 0) ∧ zre zdig c (m 521 132 0) - m 521 132 0 ≤ 3 then some (some (zdv c (zre zdig c (m 521 132 0) - m 521 132 0) (m 521 132 0) 0), zre zdig c (m 521 132 0)) else none := if_neg c1
    by_cases c2 : m 522 132 0 = 0
    · by_cases c3 : zre zdig c (m 521 132 0) = m 521 132 0
      · refine ⟨_, p101_29_4 (x1 := m 521 132 0) hx hl2 hd c2 c3 (by show zre zdig c (m 521 132 0) < _; omega), fr 1, hg.1, ?_, Nat.le_refl 1, fun _ => rfl, fun _ => ?_⟩
        · show zre zdig c (m 521 132 0) ≤ 65; omega
        · rw [hpt, if_neg (by omega)]; rfl
      · by_cases c4 : zre zdig c (m 521 132 0) - m 521 132 0 ≤ 3
        · refine ⟨_, p101_29_3 (x1 := m 521 132 0) hx hl2 hd c2 c3 c4 (by show zre zdig c (m 521 132 0) < _; omega) (by omega) hg.1 (by show zre zdig c (m 521 132 0) - m 521 132 0 < _; omega), fr 0, hg.1, ?_, Nat.zero_le 1, fun q => by omega, fun _ => ?_⟩
          · show zre zdig c (m 521 132 0) ≤ 65; omega
          · rw [hpt, if_pos (by omega)]; exact ⟨rfl, rfl⟩
        · refine ⟨_, p101_29_2 (x1 := m 521 132 0) hx hl2 hd c2 c3 (by show 3 < zre zdig c (m 521 132 0) - m 521 132 0; omega) (by show zre zdig c (m 521 132 0) < _; omega) (by omega) hg.1 (by show zre zdig c (m 521 132 0) - m 521 132 0 < _; omega), fr 1, hg.1, ?_, Nat.le_refl 1, fun _ => rfl, fun _ => ?_⟩
          · show zre zdig c (m 521 132 0) ≤ 65; omega
          · rw [hpt, if_neg (by omega)]; rfl
    · refine ⟨_, p101_29_5 (x1 := m 521 132 0) hx hl2 hd c2 (by show zre zdig c (m 521 132 0) < _; omega) (by show m 522 132 0 < _; omega), fr 1, hg.1, ?_, Nat.le_refl 1, fun _ => rfl, fun q => absurd q c2⟩
      show zre zdig c (m 521 132 0) ≤ 65; omega
end
