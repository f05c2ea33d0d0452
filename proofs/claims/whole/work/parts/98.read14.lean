theorem zsR_e {h : zH} {g a i : Nat} {x : Option Nat} : zR (zsR h g a i x) g a i = x := if_pos ⟨rfl, rfl, rfl⟩
theorem zsR_g {h : zH} {g k a i b j : Nat} {x : Option Nat} (ne : g ≠ k) : zR (zsR h k a i x) g b j = zR h g b j := if_neg fun e => ne e.1
section
variable {L : Nat} {xs : Nat → Int32} {m : zMm} {O : zOt} {W : List (Nat × Nat)} {p q s len : Nat} {c : Nat → Nat}
theorem s27_9 {h : zH} {y a : Nat} {u bd wr : Bool} (hs : s < 3) (hl : zLm m s len c) (b : zBd h m O W p q s len a bd wr) (z : zQf h q 9 y u.toNat 0 0 0 0 0) (h1 : 1 ≤ a) (h32 : c (a - 1) = 32) : ∃ h' a' bd' wr', zCl (zPr L xs) 27 [.ref p, .ref q] (zMH h m) = some (.inl none, zMH h' m) ∧ zBd h' m O W p q s len a' bd' wr' ∧ zGf p q 48 192 h h' ∧ (zR h' 101 q 0 = some 9 ∧ zR h' 100 q 0 = some y) ∧ zRq2 O W c h' q 9 y u (a - 1) bd wr a' bd' wr' := by
  have hx := b.1
  have b2 : 154 ≤ q := by have := b.2.2.2.1.1; omega
  obtain ⟨ha, hb, M, a2, bd2, wr2, e1, hxa, ta, tb, e2, la2, B2, g2, zq, m2, q2⟩ := zpreS (L := L) (xs := xs) hs hl b z
  obtain ⟨hc', e3, r3, f3⟩ := s29 (L := L) (xs := xs) B2.1 hs hl B2.2.2.1
  obtain ⟨B3, g3, kq⟩ := zBd_r hs B2 r3 f3
  obtain ⟨w1, w2, w3, w4, w5, w6, w7, w8⟩ := kq _ _ _ _ _ _ _ _ zq
  have BI := zBd_I hs B3 106 (nI (zsgn (c a2)))
  have zq2 : zQf (zsI hc' 106 q 0 (nI (zsgn (c a2)))) q 9 y u.toNat 0 0 (zsgn (c a2)) 0 M := ⟨w1, w2, (zsI_g (by decide)).trans w3, (zsI_g (by decide)).trans w4, (zsI_g (by decide)).trans w5, zsI_e, (zsI_g (by decide)).trans w7, w8⟩
  obtain ⟨hd, fl, a4, bd4, e4, fl16, r4, f4, m4, q4⟩ := s31 (L := L) (xs := xs) BI.1 hs hl BI.2.2.1
  obtain ⟨B4, g4, kq4⟩ := zBd_r hs BI r4 f4
  obtain ⟨w1, w2, w3, w4, w5, w6, w7, w8⟩ := kq4 _ _ _ _ _ _ _ _ zq2
  rw [en_27]
  have st := p27v9_0_1 (L := L) (xs := xs) (m := m) (q := q) hx hs b.2.2.2.2 z.1 z.2.2.1 b.2.2.1.1.2.1 e1 hxa ta tb e2 B2.1 B2.2.2.1.1.2.1 e3 B3.1 B3.2.2.2.2 BI.2.2.1.1.2.1 e4 B4.1 B4.2.2.2.2 b2
  refine ⟨_, _, _, wr2, st, zBd_I hs B4 104 _, zGf_w (zGf_tr (zGf_tr (zGf_tr (zGf_tr g2 g3) (zGf_I p q hc' 106 _)) g4) (zGf_I p q hd 104 _)) (Nat.zero_le _) (Nat.zero_le _), ⟨w1, w2⟩, fun g => m4 (m2 g), fun g => ?_⟩
  have q2 := q2 g
  have zr : zrest c (zEc O W c) u (9 + 1) (a - 1) = zrest2 c (zEc O W c) u 10 a := by
    unfold zrest
    rw [if_neg (by decide), if_pos h32, if_neg (by decide), show a - 1 + 1 = a by omega]
  rw [zr]
  unfold zrest2
  rw [if_neg (show ¬ 10 = 13 by decide)]
  cases hz : zset c 64 a with
  | none =>
    rw [hz] at q2
    exact Or.inl (m4 q2)
  | some x =>
    obtain ⟨l, e⟩ := x
    rw [hz] at q2
    dsimp only
    by_cases w : c e = 32
    · obtain ⟨x1, x2, x3, x4⟩ := q2.1 w
      have q4 := q4 x1
      rw [if_pos w, if_pos rfl, ← x2, show e + 2 = a2 + 1 by omega]
      cases hf : zfls c (if zsgn (c a2) = 0 then a2 else a2 + 1) with
      | none =>
        rw [hf] at q4
        exact Or.inl q4
      | some f =>
        obtain ⟨f, e2⟩ := f
        rw [hf] at q4
        obtain ⟨y1, y2, y3⟩ := q4
        refine ⟨y1, y3, x3, ⟨w1, w2, (zsI_g (by decide)).trans w3, (zsI_g (by decide)).trans w4, by rw [← y2]; exact zsI_e, (zsI_g (by decide)).trans w6, (zsI_g (by decide)).trans w7, ?_⟩, fun g => absurd rfl g⟩
        rw [← zSp_e (c := c), ← x4]
        exact w8
    · rw [if_neg w]
      exact Or.inl (m4 (q2.2 w))
theorem s27_8 {h : zH} {y a : Nat} {u bd wr : Bool} (hs : s < 3) (hl : zLm m s len c) (b : zBd h m O W p q s len a bd wr) (z : zQf h q 8 y u.toNat 0 0 0 0 0) (h1 : 1 ≤ a) (h32 : c (a - 1) = 32) : ∃ h' a' bd' wr', zCl (zPr L xs) 27 [.ref p, .ref q] (zMH h m) = some (.inl none, zMH h' m) ∧ zBd h' m O W p q s len a' bd' wr' ∧ zGf p q 48 192 h h' ∧ (zR h' 101 q 0 = some 8 ∧ zR h' 100 q 0 = some y) ∧ zRq2 O W c h' q 8 y u (a - 1) bd wr a' bd' wr' := by
  have hx := b.1
  have b2 : 154 ≤ q := by have := b.2.2.2.1.1; omega
  have hch := zLm_ch hl b.2.2.1.1.2.2.2
  obtain ⟨ha, e1, r1, f1⟩ := s28 (L := L) (xs := xs) hx hs hl b.2.2.1
  obtain ⟨B1, g1, k1⟩ := zBd_r hs b r1 f1
  obtain ⟨w1, w2, w3, w4, w5, w6, w7, w8⟩ := k1 _ _ _ _ _ _ _ _ z
  have BI := zBd_I hs B1 103 (nI (if 97 ≤ c a ∧ c a ≤ 100 then c a - 97 else 0))
  have zq1 : zQf (zsI ha 103 q 0 (nI (if 97 ≤ c a ∧ c a ≤ 100 then c a - 97 else 0))) q 8 y u.toNat (if 97 ≤ c a ∧ c a ≤ 100 then c a - 97 else 0) 0 0 0 0 := ⟨w1, w2, (zsI_g (by decide)).trans w3, zsI_e, (zsI_g (by decide)).trans w5, (zsI_g (by decide)).trans w6, (zsI_g (by decide)).trans w7, w8⟩
  generalize hmb : (if 97 ≤ c a ∧ c a ≤ 100 then c a - 97 else 0) = mb at e1 BI zq1
  generalize ha1 : (if 97 ≤ c a ∧ c a ≤ 100 then a + 1 else a) = a1 at BI
  generalize hd1 : (bd || !decide (97 ≤ c a ∧ c a ≤ 100)) = bd1 at BI
  obtain ⟨hb, e2, r2, f2⟩ := s41 (L := L) (xs := xs) BI.1 hs hl BI.2.2.1 (x := 32) (by decide) (by decide)
  obtain ⟨B2, g2, k2⟩ := zBd_r hs BI r2 f2
  have zq2 := k2 _ _ _ _ _ _ _ _ zq1
  generalize ha2 : (if c a1 = 32 then a1 + 1 else a1) = a2 at B2
  generalize hd2 : (bd1 || !decide (c a1 = 32)) = bd2 at B2
  obtain ⟨hc', fl, a3, bd3, e3, fl16, r3, f3, m3, q3⟩ := s31 (L := L) (xs := xs) B2.1 hs hl B2.2.2.1
  obtain ⟨B3, g3, k3⟩ := zBd_r hs B2 r3 f3
  obtain ⟨w1, w2, w3, w4, w5, w6, w7, w8⟩ := k3 _ _ _ _ _ _ _ _ zq2
  have BJ := zBd_I hs B3 104 (nI fl)
  have zq3 : zQf (zsI hc' 104 q 0 (nI fl)) q 8 y u.toNat mb fl 0 0 0 := ⟨w1, w2, (zsI_g (by decide)).trans w3, (zsI_g (by decide)).trans w4, zsI_e, (zsI_g (by decide)).trans w6, (zsI_g (by decide)).trans w7, w8⟩
  obtain ⟨hd, e4, r4, f4⟩ := s41 (L := L) (xs := xs) BJ.1 hs hl BJ.2.2.1 (x := 32) (by decide) (by decide)
  obtain ⟨B4, g4, k4⟩ := zBd_r hs BJ r4 f4
  have zq4 := k4 _ _ _ _ _ _ _ _ zq3
  generalize ha4 : (if c a3 = 32 then a3 + 1 else a3) = a4 at B4
  generalize hd4 : (bd3 || !decide (c a3 = 32)) = bd4 at B4
  obtain ⟨he, t, e5, r5, f5, st5⟩ := s33 (L := L) (xs := xs) (t := false) B4.1 hs hl B4.2.2.1 (q := 6) (by decide)
  obtain ⟨B5, g5, k5⟩ := zBd_r hs B4 r5 f5
  obtain ⟨w1, w2, w3, w4, w5, w6, w7, w8⟩ := k5 _ _ _ _ _ _ _ _ zq4
  rw [en_27]
  have st := p27v8_0_1 (L := L) (xs := xs) (m := m) (q := q) hx hs b.2.2.2.2 z.1 b.2.2.1.1.2.1 e1 B1.1 B1.2.2.2.2 BI.2.2.1.1.2.1 e2 B2.1 B2.2.2.1.1.2.1 e3 B3.1 B3.2.2.2.2 BJ.2.2.1.1.2.1 e4 B4.1 B4.2.2.1.1.2.1 e5 B5.1 B5.2.2.2.2 b2
  refine ⟨_, _, _, wr, st, zBd_R hs B5 105 _, zGf_w (zGf_tr (zGf_tr (zGf_tr (zGf_tr (zGf_tr (zGf_tr (zGf_tr g1 (zGf_I p q ha 103 _)) g2) g3) (zGf_I p q hc' 104 _)) g4) g5) (zGf_R p q he 105 _)) (by decide) (by decide), ⟨(zsR_g (by decide)).trans w1, (zsR_g (by decide)).trans w2⟩, fun g => ?_, fun g => ?_⟩
  · have : bd3 = true := m3 (by rw [← hd2, ← hd1, g]; rfl)
    rw [← hd4, this]; rfl
  have zr : zrest c (zEc O W c) u (8 + 1) (a - 1) = if 97 ≤ c a ∧ c a ≤ 100 then (if c (a + 1) = 32 then (match zfls c (a + 2) with
            | none => none
            | some (f, e) => if c e = 32 ∧ 1 ≤ zre zsml c (e + 1) - (e + 1) ∧ zre zsml c (e + 1) - (e + 1) ≤ 6 then some (zre zsml c (e + 1), (c a - 97, f, 0, e + 1, zre zsml c (e + 1) - (e + 1), 0, false, fun _ => false)) else none)
          else none) else none := by
    unfold zrest
    rw [if_neg (by decide), if_pos h32, if_pos (by decide), show a - 1 + 1 = a by omega, if_pos rfl, show a - 1 + 2 = a + 1 by omega, show a - 1 + 3 = a + 2 by omega]
    cases zfls c (a + 2) <;> rfl
  rw [zr]
  have fail : bd4 = true → ∀ n : Bool, (bd4 || n) = true := fun e n => by rw [e]; rfl
  by_cases d : 97 ≤ c a ∧ c a ≤ 100
  · rw [if_pos d] at ha1 hmb ⊢
    rw [decide_eq_true d, g] at hd1
    subst ha1
    by_cases d2 : c (a + 1) = 32
    · rw [if_pos d2] at ha2 ⊢
      rw [decide_eq_true d2, ← hd1] at hd2
      subst ha2
      have q3 := q3 hd2.symm
      cases hf : zfls c (a + 2) with
      | none =>
        rw [hf] at q3
        exact Or.inl (fail (by rw [← hd4, q3]; rfl) _)
      | some f =>
        obtain ⟨f, e⟩ := f
        rw [hf] at q3
        obtain ⟨y1, y2, y3⟩ := q3
        dsimp only
        rw [← y3]
        have fr := zfn_re (P := zsml) (c := c) hch rfl 6 a4
        rw [← zfn_s] at fr
        by_cases d3 : c a3 = 32
        · rw [if_pos d3] at ha4
          rw [decide_eq_true d3, y1] at hd4
          rw [← ha4] at fr ⊢
          have hb4 : bd4 = false := hd4.symm
          have ge := zre_ge (f := zsml) hch rfl (a3 + 1)
          by_cases d4 : 1 ≤ zre zsml c (a3 + 1) - (a3 + 1) ∧ zre zsml c (a3 + 1) - (a3 + 1) ≤ 6
          · rw [if_pos ⟨d3, d4⟩]
            have fe : zfn (zLt false) c 6 (a3 + 1) = zre zsml c (a3 + 1) - (a3 + 1) := by rw [fr]; split <;> omega
            refine ⟨?_, ?_, (Bool.or_false wr).symm, ⟨?_, ?_⟩⟩
            · rw [fe, hb4, decide_eq_false (by omega)]; rfl
            · rw [fe]; have := ge.1; show _ = zre zsml c (a3 + 1); omega
            · show zQf _ q 8 y u.toNat (c a - 97) f 0 0 (zMk (fun n => zPg O W n && false) W.length)
              rw [zMk_f, ← y2, hmb]
              exact ⟨(zsR_g (by decide)).trans w1, (zsR_g (by decide)).trans w2, w3, w4, w5, w6, w7, w8⟩
            · intro _
              show ∃ t, _ ∧ zSt _ t ((List.range (zre zsml c (a3 + 1) - (a3 + 1))).map fun i => c (a3 + 1 + i))
              rw [← fe]
              exact ⟨t, zsR_e, ha4 ▸ st5⟩
          · rw [if_neg (fun q => d4 q.2)]
            by_cases d5 : zre zsml c (a3 + 1) - (a3 + 1) = 0
            · have fe : zfn (zLt false) c 6 (a3 + 1) = 0 := by rw [fr]; split <;> omega
              exact Or.inl (by rw [fe, hb4]; rfl)
            · have fe : zfn (zLt false) c 6 (a3 + 1) = 6 := by rw [fr]; split <;> omega
              refine Or.inr ?_
              rw [fe]
              have := zre_all (f := zsml) hch rfl (a3 + 1) 6 (by omega)
              exact fun e0 => by rw [e0] at this; cases this
        · rw [if_neg (fun q => d3 q.1)]
          rw [decide_eq_false d3] at hd4
          exact Or.inl (fail (by rw [← hd4]; cases bd3 <;> rfl) _)
    · rw [if_neg d2]
      rw [decide_eq_false d2, ← hd1] at hd2
      have : bd3 = true := m3 hd2.symm
      exact Or.inl (fail (by rw [← hd4, this]; rfl) _)
  · rw [if_neg d]
    rw [decide_eq_false d] at hd1
    have : bd1 = true := by rw [← hd1]; cases bd <;> rfl
    have : bd3 = true := m3 (by rw [← hd2, this]; rfl)
    exact Or.inl (fail (by rw [← hd4, this]; rfl) _)
end
