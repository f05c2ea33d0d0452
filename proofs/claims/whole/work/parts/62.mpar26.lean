/-! ===== the reference performs a command ===== -/
theorem zrp_o {m m' : zMm} {s : Nat} (h5 : m' 0 150 s = m 0 150 s) (h6 : ∀ i, i < m 0 150 s → m' 0 149 (2048 * s + i) = m 0 149 (2048 * s + i)) : zrp m' s = zrp m s := by
  unfold zrp
  rw [h5]
  refine List.map_congr_left fun i hi => ?_
  exact h6 i (List.mem_range.1 hi)
theorem zss_o {m m' : zMm} {s : Nat} (h1 : m' 0 141 s = m 0 141 s) (h2 : m' 0 142 s = m 0 142 s) (h3 : m' 0 143 s = m 0 143 s) (h4 : zvw m' s = zvw m s) (h5 : zrp m' s = zrp m s) (h7 : m' 0 148 s = m 0 148 s) (h8 : ∀ i, m' 0 147 i = m 0 147 i) : zss m' s = zss m s := by
  unfold zss zsq zln
  simp only [h1, h2, h3, h4, h5, h7, h8]
theorem zrp_d {m m' : zMm} {s s0 : Nat} (hs : s ≠ s0) (hr : m 0 150 s ≤ 1024) (h1 : ∀ q, q ≠ s0 → m' 0 150 q = m 0 150 q) (h2 : ∀ q, q / 2048 ≠ s0 → m' 0 149 q = m 0 149 q) : zrp m' s = zrp m s := zrp_o (h1 s hs) fun i hi => h2 _ (by omega)
/-- what a command leaves of the line and of how it was read -/
def zKeep (m m' : zMm) : Prop := m' 520 132 0 = m 520 132 0 ∧ m' 525 132 0 = m 525 132 0 ∧ m' 524 132 0 = m 524 132 0 ∧ (∀ i, m' 0 148 i = m 0 148 i) ∧ (∀ i, m' 0 147 i = m 0 147 i) ∧ (∀ s, s ≠ m 520 132 0 → m' 0 150 s = m 0 150 s) ∧ m' 500 132 0 = m 500 132 0 ∧ ∀ g a i, a < 132 → m' g a i = m g a i
theorem zKeep_of {l : List (Nat × Nat)} {m m' : zMm} (hf : zfr l m m') (hr : ∀ s, s ≠ m 520 132 0 → m' 0 150 s = m 0 150 s) (h0 : ∀ q ∈ l, q ≠ (520, 132) ∧ q ≠ (525, 132) ∧ q ≠ (524, 132) ∧ q ≠ (0, 148) ∧ q ≠ (0, 147) ∧ q ≠ (500, 132)  ∧ 132 ≤ q.2 := by decide) : zKeep m m' := ⟨hf _ _ _ fun q => (h0 _ q).1 rfl, hf _ _ _ fun q => (h0 _ q).2.1 rfl, hf _ _ _ fun q => (h0 _ q).2.2.1 rfl, fun i => hf _ _ _ fun q => (h0 _ q).2.2.2.1 rfl, fun i => hf _ _ _ fun q => (h0 _ q).2.2.2.2.1 rfl, hr, hf _ _ _ fun q => (h0 _ q).2.2.2.2.2.1 rfl, fun g a i ha => hf _ _ _ fun q => absurd (h0 _ q).2.2.2.2.2.2 (Nat.not_le_of_lt ha)⟩
theorem zKeep_rf (m : zMm) : zKeep m m := ⟨rfl, rfl, rfl, fun _ => rfl, fun _ => rfl, fun _ _ => rfl, rfl, fun _ _ _ _ => rfl⟩
theorem zKeep_tr {m m1 m2 : zMm} (a : zKeep m m1) (b : zKeep m1 m2) : zKeep m m2 := ⟨b.1.trans a.1, b.2.1.trans a.2.1, b.2.2.1.trans a.2.2.1, fun i => (b.2.2.2.1 i).trans (a.2.2.2.1 i), fun i => (b.2.2.2.2.1 i).trans (a.2.2.2.2.1 i), fun s hs => (b.2.2.2.2.2.1 s (by rw [a.1]; exact hs)).trans (a.2.2.2.2.2.1 s hs), b.2.2.2.2.2.2.1.trans a.2.2.2.2.2.2.1, fun g x i hx => (b.2.2.2.2.2.2.2 g x i hx).trans (a.2.2.2.2.2.2.2 g x i hx)⟩
theorem zKeep_lc {m m' : zMm} {c : Nat → Nat} (h : zKeep m m') (hl : zLC m c) : zLC m' c := by
  obtain ⟨⟨a1, a2⟩, a3, a4⟩ := hl
  refine ⟨⟨by rw [h.1]; exact a1, by rw [h.1, h.2.2.2.1]; exact a2⟩, fun p => ?_, a4⟩
  rw [← a3 p]
  unfold zlk
  rw [h.1, h.2.2.2.1, h.2.2.2.2.1]
section
variable {L : Nat} {xs : Nat → Int32} {h : zH} {c : Nat → Nat}
theorem s137 (hx : zFx h) {m : zMm} {N : Nat} {u w : Bool} {e : Nat} {P : zHd} (hN : N ≤ 9999) (hl : zLC m c) (hv : zVB m) (hvw : ∀ k, k < 120 → m 0 145 k < N) (h64 : m 534 132 0 ≤ 64) (hz : zks c (zenv m c) 130 true 0 (m 534 132 0) = some (e, w, P)) (hle : m 0 148 (m 520 132 0) ≤ e) (hu : m 525 132 0 = u.toNat) (hb : m 522 132 0 = 0) (hw : m 523 132 0 ≤ 1) (hr : zRL m ≤ 100) : ∃ m', zCl (zPr L xs) 137 [.ref 132] (zMH h m) = some (.inl none, zMH h m') ∧ zSay2 m m' (zov P (zfn1 (zbm m (zsb m)) (zvw m (m 520 132 0)) u) (znp m) 1 [42, 32, 83, 69, 65, 82, 67, 72] ++ [10]) ∧ zRL m' ≤ zRL m + 9 + 5 * znp m := by
  have h40 : znp m ≤ 40 := hv.2.2.2.1
  rw [en_137]
  obtain ⟨m1, e1, s1⟩ := s119 (L := L) (xs := xs) hx hl 42 (by omega)
  have l1 : zRL m1 = zRL m + 1 := zSay_len s1
  have hl1 := zSay_lc hl s1
  obtain ⟨m2, e2, s2⟩ := s119 (L := L) (xs := xs) hx hl1 32 (by omega)
  have l2 : zRL m2 = zRL m1 + 1 := zSay_len s2
  have hl2 := zSay_lc hl1 s2
  obtain ⟨m3, e3, s3⟩ := s121_SEARCH (L := L) (xs := xs) hx hl2 (by omega)
  have l3 : zRL m3 = zRL m2 + 6 := zSay_len s3
  have hl3 := zSay_lc hl2 s3
  have S : zSay m m3 [42, 32, 83, 69, 65, 82, 67, 72] := zSay_tr (zSay_tr s1 s2) s3
  have F := S.1
  have ev := zenv_fr (c := c) F
  have es : m3 520 132 0 = m 520 132 0 := F _ _ _ (by decide)
  have mg : zmg m3 = zmg m := by
    funext j
    unfold zmg ztx
    rw [show m3 0 137 j = m 0 137 j from F _ _ _ (by decide), show m3 0 138 j = m 0 138 j from F _ _ _ (by decide), show m3 0 139 j = m 0 139 j from F _ _ _ (by decide)]
    have : ∀ q, m3 0 140 q = m 0 140 q := fun q => F _ _ _ (by decide)
    simp only [this]
  have sa3 : m3 534 132 0 = m 534 132 0 := F _ _ _ (by decide)
  have ll3 : m3 0 148 (m3 520 132 0) = m 0 148 (m 520 132 0) := by rw [es]; exact F _ _ _ (by decide)
  have ui3 : m3 525 132 0 = u.toNat := (F _ _ _ (by decide)).trans hu
  have bd3 : m3 522 132 0 = 0 := (F _ _ _ (by decide)).trans hb
  have wr3 : m3 523 132 0 ≤ 1 := by rw [show m3 523 132 0 = m 523 132 0 from F _ _ _ (by decide)]; exact hw
  obtain ⟨m4, T, e4, s4, t4, z4⟩ := s137l (L := L) (xs := xs) hx hN (zbm m (zsb m)) (zvw m (m 520 132 0)) h64 hz hle (znp m) 1 m3 hl3 (zVB_fr hv F) (fun k hk => by rw [show m3 0 145 k = m 0 145 k from F _ _ _ (by decide)]; exact hvw k hk) ev.1 sa3 ll3 ui3 bd3 wr3 ev.2.2.2 (Nat.le_refl _) (by omega) (fun q h1 h2 => by rw [ev.2.1, ev.2.2.1, mg]; exact ⟨⟨_, zvw_at ⟨h1, h2⟩⟩, zfind_mt m q⟩) (by omega)
  have l4 := s4.2.2.1
  rw [List.length_append] at l4
  have l4 : zRL m4 = zRL m3 + (T.length + 1) := l4
  refine ⟨m4, (p137_0_1 hx hl e1 e2 e3).trans e4, ?_, by omega⟩
  rw [z4, List.append_assoc]
  exact zSay2_tr (zSay2_of S) s4
/-- one command for the places of a set: STORE and FETCH -/
theorem s138o (hx : zFx h) {m : zMm} {k sg it w N : Nat} {u : Bool} {l : List zRg} {f0 : Nat} (hk : k = 10 ∨ k = 11) (hN : N ≤ 9999) (hwr : k = 11 → zL h 533 132 0 = nL w ∧ w < 18446744073709551616 ∧ zitem w = some it) (hl : zLC m c) (hv : zVB m) (hok : zMOk N m) (hup : zUp m) (hvu : zVu m) (hz : zset c f0 (m 527 132 0) = some (l, m 528 132 0)) (h64 : m 527 132 0 ≤ 64) (hu : m 525 132 0 = u.toNat) (h10 : k = 10 → m 530 132 0 = (if sg = 0 then 0 else if sg = 1 then 1 else 4294967295) ∧ m 529 132 0 < 16) (hr : zRL m ≤ 100) : ∃ m', zCl (zPr L xs) 138 [.ref 132, .int (nI k)] (zMH h m) = some (.inl none, zMH h m') ∧ zKp m m' ∧ zMOk N m' ∧ zRL m' ≤ zRL m + 200 ∧ zsgm m' = zov (zPl l (zenv m c) u) (zsF1 k sg (m 529 132 0) it (decide (m 0 143 (m 520 132 0) ≠ 0))) (znp m) 1 (zsgm m) := by
  rw [en_138]
  have mp := zmp_few (P := zPl l (zenv m c) u) hv hup hvu
  have mp : zmpc m (zPl l (zenv m c) u) (znp m) 1 ≤ 10 := mp
  obtain ⟨m', e, r1, r2, -, r3, r4⟩ := s138s (L := L) (xs := xs) hx hk hN hwr (m0 := m) (znp m) 1 m hl hv hok hup hz h64 hu h10 (Nat.le_refl _) (by omega) (by omega)
  exact ⟨m', (p138_0_1 hx hl hv.1).trans e, r1, r2, by omega, r4⟩
/-- COPY -/
theorem s138p (hx : zFx h) {m : zMm} {N : Nat} {u : Bool} {l : List zRg} {f0 : Nat} (hN : N ≤ 9999) (hl : zLC m c) (hv : zVB m) (hok : zMOk N m) (hup : zUp m) (hvu : zVu m) (hz : zset c f0 (m 527 132 0) = some (l, m 528 132 0)) (h64 : m 527 132 0 ≤ 64) (hu : m 525 132 0 = u.toNat) (hb : m 526 132 0 < 4) (hc : m 0 136 (m 526 132 0) + zmp m (zPl l (zenv m c) u) ≤ 10) (hn : m 0 135 (m 526 132 0) + 10 ≤ N) : ∃ m', zCl (zPr L xs) 138 [.ref 132, .int (nI 12)] (zMH h m) = some (.inl none, zMH h m') ∧ zfr [(0, 137), (0, 138), (0, 135), (0, 136), (0, 139), (0, 140)] m m' ∧ zMOk N m' ∧ (∀ b, b < 4 → b ≠ m 526 132 0 → zbm m' b = zbm m b ∧ m' 0 135 b = m 0 135 b) ∧ (m' 0 135 (m 526 132 0), zbm m' (m 526 132 0)) = zov (zPl l (zenv m c) u) (zcp1 (zbm m (zsb m)) (zvw m (m 520 132 0))) (znp m) 1 (m 0 135 (m 526 132 0), zbm m (m 526 132 0)) := by
  rw [en_138]
  have mp := zmp_few (P := zPl l (zenv m c) u) hv hup hvu
  have t3 := hv.1
  have hvu := hvu (m 520 132 0) t3 hv.2.1
  have hvu : ∀ p, p < znp m → m 0 145 (40 * (m 520 132 0) + p) < m 0 135 (zsb m) := hvu.2
  obtain ⟨m', e, r1, r2, -, r3, r4⟩ := s138c (L := L) (xs := xs) hx hN (zbm m (zsb m)) (zvw m (m 520 132 0)) (znp m) 1 m hl hv hok hup hz h64 hu hb (Nat.le_refl _) (by omega) (fun q h1 h2 => ⟨by have := hvu (q - 1) (by omega); rw [show 40 * (m 520 132 0) + (q - 1) = 40 * (m 520 132 0) + q - 1 by omega] at this; exact this, ⟨_, zvw_at ⟨h1, h2⟩⟩, zfind_mt m q⟩) hc (by have : zmpc m (zPl l (zenv m c) u) (znp m) 1 ≤ 10 := mp; omega)
  exact ⟨m', (p138_0_1 hx hl t3).trans e, r1, r2, r3, r4⟩
end
