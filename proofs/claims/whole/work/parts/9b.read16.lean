section
variable {L : Nat} {xs : Nat → Int32} {m : zMm} {O : zOt} {W : List (Nat × Nat)} {p q s len : Nat} {c : Nat → Nat}
theorem s27 {h : zH} {v y a : Nat} {u bd wr : Bool} (hs : s < 3) (hl : zLm m s len c) (b : zBd h m O W p q s len a bd wr) (z : zQf h q v y u.toNat 0 0 0 0 0) (hv : v < 13) (h1 : 4 ≤ v → 1 ≤ a ∧ c (a - 1) = 32) : ∃ h' a' bd' wr', zCl (zPr L xs) 27 [.ref p, .ref q] (zMH h m) = some (.inl none, zMH h' m) ∧ zBd h' m O W p q s len a' bd' wr' ∧ zGf p q 48 192 h h' ∧ (zR h' 101 q 0 = some v ∧ zR h' 100 q 0 = some y) ∧ zRq2 O W c h' q v y u (if v < 4 then a else a - 1) bd wr a' bd' wr' := by
  by_cases l4 : v < 4
  · rw [if_pos l4]
    obtain ⟨h', a', bd', wr', e, _, x⟩ := s27_0 (L := L) (xs := xs) (c := c) hs b z l4
    exact ⟨h', a', bd', wr', e, x⟩
  rw [if_neg l4]
  obtain ⟨k1, k2⟩ := h1 (by omega)
  by_cases l8 : v < 8
  · obtain ⟨h', a', bd', wr', e, _, x⟩ := s27_4 (L := L) (xs := xs) hs hl b z ⟨by omega, l8⟩ k1 k2
    exact ⟨h', a', bd', wr', e, x⟩
  have : v = 8 ∨ v = 9 ∨ v = 10 ∨ v = 11 ∨ v = 12 := by omega
  rcases this with g | g | g | g | g <;> subst g
  · exact s27_8 (L := L) (xs := xs) hs hl b z k1 k2
  · exact s27_9 (L := L) (xs := xs) hs hl b z k1 k2
  · obtain ⟨h', a', bd', wr', e, _, x⟩ := s27_10 (L := L) (xs := xs) hs hl b z k1 k2
    exact ⟨h', a', bd', wr', e, x⟩
  · obtain ⟨h', a', bd', wr', e, _, x⟩ := s27_11 (L := L) (xs := xs) hs hl b z k1 k2
    exact ⟨h', a', bd', wr', e, x⟩
  · obtain ⟨h', a', bd', wr', e, _, x⟩ := s27_12 (L := L) (xs := xs) hs hl b z k1 k2
    exact ⟨h', a', bd', wr', e, x⟩
theorem s18 {h : zH} (hx : zFx h) {a : Nat} : zCl (zPr L xs) 18 [.ref a] (zMH h m) = some (.inl none, zMH h m) := by
  rw [en_18]
  exact p18_0_1 hx
/-- what was read, in the heap -/
def zRd (h : zH) (O : zOt) (W : List (Nat × Nat)) (c : Nat → Nat) (len q : Nat) (x : Value) : Prop := match zread c (zEc O W c) len with
  | none => x = .null
  | some (k, u, tl, a) => x = .ref q ∧ (1 ≤ k ∧ k ≤ 13) ∧ (∃ y, zCq h O W c q (k - 1) y u a ∧ zSt h y ((List.range tl).map fun i => c i)) ∧ zI h 109 q 0 = nI a.2.2.2.2.2.2.1.toNat
theorem s25 {h : zH} (hx : zFx h) (hs : s < 3) (hl : zLm m s len c) (hw : zWv h m O s W) (r : zRr h p s len 0 false false) : ∃ h' x, zCl (zPr L xs) 25 [.ref p] (zMH h m) = some (.inl (some x), zMH h' m) ∧ zGf p (zN h) 52 218 h h' ∧ (zFx h' ∧ zWv h' m O s W ∧ zN h < zN h' ∧ zT h' (zN h) = 2) ∧ zRd h' O W c len (zN h) x := by
  have hch := zLm_ch hl r.1.2.2.2
  have hn := hx.1
  have pn : p < zN h := r.1.1.2
  have q2 : 154 ≤ zN h := by omega
  have f0 := zRf_new p h 2 0 10
  have tp : zT (zNew h 2 0 10) p = 5 := (if_neg (Nat.ne_of_lt pn)).trans r.1.2.1
  have ne : zN h ≠ p := Nat.ne_of_gt pn
  have B0 : zBd (zNew h 2 0 10) m O W p (zN h) s len 0 false false := ⟨zFx_new hx, zWv_rf hx hs r.1.2.1 f0 hw, zRr_new r, ⟨⟨hn, Nat.lt_succ_self _⟩, if_pos rfl⟩⟩
  have n0 : (∀ g, zI (zNew h 2 0 10) g (zN h) 0 = 0) ∧ ∀ g, zL (zNew h 2 0 10) g (zN h) 0 = 0 := ⟨fun g => if_pos rfl, fun g => if_pos rfl⟩
  obtain ⟨ha, y, e1, r1, f1, st⟩ := s33 (L := L) (xs := xs) (t := true) B0.1 hs hl B0.2.2.1 (q := 2) (by decide)
  obtain ⟨B1, g1, -⟩ := zBd_r hs B0 r1 f1
  have n1 := zRf_q f1 B0.2.2.2.1.2 ne
  have B1' := zBd_R hs B1 100 (some y)
  have st1 : zSt (zsR ha 100 (zN h) 0 (some y)) y _ := zSt_gf B1.1 B1.2.2.1.1.2.1 B1.2.2.2.2 (zGf_R p (zN h) ha 100 (some y)) st
  generalize hn1 : zfn (zLt true) c 2 0 = n at B1' st1
  generalize hd1 : (false || decide (n = 0)) = bd1 at B1'
  obtain ⟨hb, e2, r2, f2⟩ := s41 (L := L) (xs := xs) B1'.1 hs hl B1'.2.2.1 (x := 32) (by decide) (by decide)
  obtain ⟨B2, g2, -⟩ := zBd_r hs B1' r2 f2
  have n2 := zRf_q f2 B1'.2.2.2.1.2 ne
  have st2 := zSt_rf B1'.1 B1'.2.2.1.1.2.1 f2 st1
  generalize ha2 : (if c (0 + n) = 32 then 0 + n + 1 else 0 + n) = a2 at B2
  generalize hd2 : (bd1 || !decide (c (0 + n) = 32)) = bd2 at B2
  obtain ⟨hc', e3, r3, f3⟩ := s42 (L := L) (xs := xs) B2.1 hs hl B2.2.2.1 (q := 20) (zSt_k B2.1 (by decide)) (by decide)
  obtain ⟨B3, g3, -⟩ := zBd_r hs B2 r3 f3
  have n3 := zRf_q f3 B2.2.2.2.1.2 ne
  have st3 := zSt_rf B2.1 B2.2.2.1.1.2.1 f3 st2
  have hu0 : zByt.getD (20 - 20) [] = [85, 73, 68, 32] := rfl
  rw [hu0] at e3 B3
  generalize hu : zmw c a2 [85, 73, 68, 32] = u at e3 B3
  have B3' := zBd_I hs B3 102 (nI u.toNat)
  have st4 := zSt_gf B3.1 B3.2.2.1.1.2.1 B3.2.2.2.2 (zGf_I p (zN h) hc' 102 (nI u.toNat)) st3
  generalize ha3 : (if u = true then a2 + [85, 73, 68, 32].length else a2) = a3 at B3'
  obtain ⟨hd, e4, r4, f4⟩ := s26 (L := L) (xs := xs) B3'.1 hs hl B3'.2.2.1
  obtain ⟨B4, g4, -⟩ := zBd_r hs B3' r4 f4
  have n4 := zRf_q f4 B3'.2.2.2.1.2 ne
  have st5 := zSt_rf B3'.1 B3'.2.2.1.1.2.1 f4 st4
  have G4 : zGf p (zN h) 4 26 h hd := zGf_w (zGf_tr (zGf_tr (zGf_tr (zGf_tr (zGf_tr (zGf_tr (zGf_rf f0) g1) (zGf_R p (zN h) ha 100 _)) g2) g3) (zGf_I p (zN h) hc' 102 _)) g4) (by decide) (by decide)
  have nf : ∀ g, g ≠ 102 → zI hd g (zN h) 0 = 0 := fun g hg => (n4.1 g).trans ((zsI_g hg).trans ((n3.1 g).trans ((n2.1 g).trans ((n1.1 g).trans (n0.1 g)))))
  have nl : zL hd 108 (zN h) 0 = 0 := (n4.2.2 _).trans ((n3.2.2 _).trans ((n2.2.2 _).trans ((n1.2.2 _).trans (n0.2 _))))
  have nu : zI hd 102 (zN h) 0 = nI u.toNat := (n4.1 _).trans zsI_e
  have ny : zR hd 100 (zN h) 0 = some y := (n4.2.1 _).trans ((n3.2.1 _).trans ((n2.2.1 _).trans zsR_e))
  have tg := ztag hch hn1 (b := bd2) (by rw [hd1]; exact hd2)
  -- no head: nothing was read
  have nul : ∀ x : Value, x = .null → (bd2 = false → zread c (zEc O W c) len = none) → ∀ h', zRd h' O W c len (zN h) x := fun x ex hr h' => by
    have : zread c (zEc O W c) len = none := by
      cases z : bd2 with
      | false => exact hr z
      | true =>
        unfold zread
        rw [tg.2 z]
    unfold zRd
    rw [this]
    exact ex
  have vb : bd2 = false → _ := fun z => by
    obtain ⟨x1, x2⟩ := tg.1 z
    rw [← x1] at x2
    rw [if_pos (by rw [Nat.zero_add]; exact x2.2.2), Nat.zero_add] at ha2
    exact zverb hch (E := zEc O W c) (len := len) (t := n) (a := a3) (u := u) x1.symm x2 (by rw [ha2]; exact hu) (by rw [ha2]; exact ha3)
  rw [en_25]
  cases hv : zvb c a3 with
  | none =>
    rw [hv] at e4 B4 vb
    have st := p25n_0_1 (L := L) (xs := xs) (y4 := u) hx hs (s18 (zFx_new hx)) (zFx_new hx) tp e1 B1.1 B1.2.2.2.2 B1'.2.2.1.1.2.1 e2 B2.1 B2.2.2.1.1.2.1 e3 B3.1 B3.2.2.2.2 B3'.2.2.1.1.2.1 e4 B4.1 B4.2.2.2.2 B4.2.2.2.2 zsR_e q2
    have B5 := zBd_R hs B4 101 none
    exact ⟨_, _, st, zGf_w (zGf_tr G4 (zGf_R p (zN h) hd 101 none)) (by decide) (by decide), ⟨B5.1, B5.2.1, B5.2.2.2.1.2, B5.2.2.2.2⟩, nul _ rfl vb _⟩
  | some v =>
    rw [hv] at e4 B4 vb
    dsimp only at B4
    have v13 := (zvb_cmd hch hv).1
    have l4 := (zvb_cmd hch hv).2.2.1
    have st := p25_0_1 (L := L) (xs := xs) (y4 := u) hx hs (s18 (zFx_new hx)) (zFx_new hx) tp e1 B1.1 B1.2.2.2.2 B1'.2.2.1.1.2.1 e2 B2.1 B2.2.2.1.1.2.1 e3 B3.1 B3.2.2.2.2 B3'.2.2.1.1.2.1 e4 B4.1 B4.2.2.2.2 B4.2.2.2.2 zsR_e q2
    have B5 := zBd_R hs B4 101 (some v)
    have G5 := zGf_w (zGf_tr G4 (zGf_R p (zN h) hd 101 (some v))) (show 4 + 0 ≤ 4 by decide) (show 26 + 0 ≤ 26 by decide)
    have st6 := zSt_gf B4.1 B4.2.2.1.1.2.1 B4.2.2.2.2 (zGf_R p (zN h) hd 101 (some v)) st5
    have hk : ((zVb 0).getD v 0 = 0) ↔ v < 9 := by
      have : ∀ v, v < 13 → (((zVb 0).getD v 0 = 0) ↔ v < 9) := by decide
      exact this v v13
    by_cases no : u = true ∧ v < 9
    · have st' := p25_49_1 (L := L) (xs := xs) (m := m) (p := p) (q := zN h) (x1 := u.toNat) B5.1 hs v13 B5.2.2.2.2 nu (by rw [no.1]; decide) zsR_e (hk.2 no.2) q2 (by rw [no.1]; decide)
      refine ⟨_, _, st.trans st', zGf_w G5 (by decide) (by decide), ⟨B5.1, B5.2.1, B5.2.2.2.1.2, B5.2.2.2.2⟩, nul _ rfl (fun z => ?_) _⟩
      rcases vb z with w | w
      · exact w.2.2
      · rw [if_pos no] at w
        exact w.2
    · have st2 : zEv (zPr L xs) 33 25 0 [.val (.ref p), .unset] [] (zMH h m) = zEv (zPr L xs) 33 25 68 [.val (.ref p), .val (.ref (zN h))] [] (zMH (zsR hd 101 (zN h) 0 (some v)) m) := by
        refine st.trans ?_
        cases zu : u with
        | true => exact p25_49_2 (x1 := 1) B5.1 hs v13 B5.2.2.2.2 (by rw [zu] at nu; exact nu) (by decide) zsR_e (fun w => no ⟨zu, hk.1 w⟩) q2 (by decide)
        | false => exact p25_49_3 (x1 := 0) B5.1 hs v13 B5.2.2.2.2 (by rw [zu] at nu; exact nu) rfl q2
      have zq : zQf (zsR hd 101 (zN h) 0 (some v)) (zN h) v y u.toNat 0 0 0 0 0 := ⟨zsR_e, (zsR_g (by decide)).trans ny, nu, nf _ (by decide), nf _ (by decide), nf _ (by decide), nf _ (by decide), nl⟩
      have lv := zVw_l v v13
      obtain ⟨he, a6, bd6, wr6, e6, B6, g6, k6, Q6⟩ := s27 (L := L) (xs := xs) hs hl B5 zq v13 (fun h4 => by
        rw [lv, if_neg (by omega), List.length_append]
        refine ⟨by show 1 ≤ a3 + (_ + 1); omega, ?_⟩
        exact (l4 h4).2.2)
      have pos : (if v < 4 then a3 + (zVw v).length else a3 + (zVw v).length - 1) = a3 + (zVl v).length := by
        rw [lv]
        by_cases w : v < 4
        · rw [if_pos w, if_pos w]
        · rw [if_neg w, if_neg w, List.length_append]
          rfl
      rw [pos] at Q6
      have B7 := zBd_I hs B6 109 (nI wr6.toNat)
      have G7 := zGf_w (zGf_tr (zGf_tr G5 g6) (zGf_I p (zN h) he 109 (nI wr6.toNat))) (show 4 + 48 + 0 ≤ 52 by decide) (show 26 + 192 + 0 ≤ 218 by decide)
      have st7 := zSt_gf B6.1 B6.2.2.1.1.2.1 B6.2.2.2.2 (zGf_I p (zN h) he 109 (nI wr6.toNat)) (zSt_gf B5.1 B5.2.2.1.1.2.1 B5.2.2.2.2 g6 st6)
      have R7 := B7.2.2.1
      have wr2 : wr6.toNat < 2 := by cases wr6 <;> decide
      have al := R7.1.2.2
      have p154 : 154 ≤ p := by have := r.1.1.1; omega
      have fields := R7.2.2.2
      by_cases b6 : bd6 = true
      · have st8 := p25_68_3 (L := L) (xs := xs) (x1 := wr6.toNat) (x2 := 1) B5.1 hs v13 B5.2.2.1.1.2.1 e6 B6.1 B6.2.2.1.1.2.1 B6.2.2.1.2.2.2.2.2.2 B6.2.2.2.2 R7.1.2.1 (by rw [b6] at fields; exact fields.2.2.1) (by decide) p154 wr2 q2 (by decide)
        refine ⟨_, _, st2.trans st8, G7, ⟨B7.1, B7.2.1, B7.2.2.2.1.2, B7.2.2.2.2⟩, nul _ rfl (fun z => ?_) _⟩
        rcases vb z with w | w
        · exact w.2.2
        · rw [if_neg no] at w
          have Q := Q6.2 z
          cases zr : zrest c (zEc O W c) u (v + 1) (a3 + (zVl v).length) with
          | none => rw [zr] at w; exact w.2
          | some x =>
            obtain ⟨e, x⟩ := x
            rw [zr] at Q
            rw [Q.1] at b6
            cases b6
      · have b6 : bd6 = false := by cases bd6 with
          | true => exact absurd rfl b6
          | false => rfl
        by_cases lt : a6 < len
        · have st8 := p25_68_1 (L := L) (xs := xs) (x1 := wr6.toNat) (x2 := 0) (x3 := a6) (x4 := len) B5.1 hs v13 B5.2.2.1.1.2.1 e6 B6.1 B6.2.2.1.1.2.1 B6.2.2.1.2.2.2.2.2.2 B6.2.2.2.2 R7.1.2.1 (by rw [b6] at fields; exact fields.2.2.1) rfl fields.2.1 fields.1 lt p154 wr2 q2
          refine ⟨_, _, st2.trans st8, G7, ⟨B7.1, B7.2.1, B7.2.2.2.1.2, B7.2.2.2.2⟩, nul _ rfl (fun z => ?_) _⟩
          rcases vb z with w | w
          · exact w.2.2
          · rw [if_neg no] at w
            have Q := Q6.2 z
            cases zr : zrest c (zEc O W c) u (v + 1) (a3 + (zVl v).length) with
            | none => rw [zr] at w; exact w.2
            | some x =>
              obtain ⟨e, x⟩ := x
              rw [zr] at Q w
              have := Q.2.1
              exact w.2.trans (if_neg (by omega))
        · have st8 := p25_68_2 (L := L) (xs := xs) (x1 := wr6.toNat) (x2 := 0) (x3 := a6) (x4 := len) B5.1 hs v13 B5.2.2.1.1.2.1 e6 B6.1 B6.2.2.1.1.2.1 B6.2.2.1.2.2.2.2.2.2 B6.2.2.2.2 R7.1.2.1 (by rw [b6] at fields; exact fields.2.2.1) rfl fields.2.1 fields.1 (by omega) p154 wr2 q2
          refine ⟨_, _, st2.trans st8, G7, ⟨B7.1, B7.2.1, B7.2.2.2.1.2, B7.2.2.2.2⟩, ?_⟩
          have c0 : c a6 = 0 := by rw [hl.1 a6, if_neg lt]
          have z : bd2 = false := by
            cases z : bd2 with
            | false => rfl
            | true => rw [Q6.1 z] at b6; cases b6
          have Q := Q6.2 z
          unfold zRd
          rcases vb z with w | w
          · have zr : zrest c (zEc O W c) u (v + 1) (a3 + (zVl v).length) = some (a3 + (zVl v).length, (0, 0, 0, 0, 0, 0, false, fun _ => false)) := by
              unfold zrest
              rw [if_pos (by omega)]
            rw [zr] at Q
            have e := Q.2.1
            rw [← e] at w
            exact absurd c0 (zlrg_0 w.2.1)
          · rw [if_neg no] at w
            cases zr : zrest c (zEc O W c) u (v + 1) (a3 + (zVl v).length) with
            | none =>
              rw [zr] at Q
              rcases Q with w | w
              · rw [b6] at w; cases w
              · exact absurd c0 w
            | some x =>
              obtain ⟨e, x⟩ := x
              rw [zr] at Q w
              obtain ⟨Q1, Q2, Q3, Q4⟩ := Q
              rw [w.2]
              dsimp only
              rw [if_pos (by omega)]
              refine ⟨rfl, ⟨by omega, by omega⟩, ⟨y, ?_, by simp only [Nat.zero_add] at st7; exact st7⟩, ?_⟩
              · obtain ⟨⟨w1, w2, w3, w4, w5, w6, w7, w8⟩, tx⟩ := Q4
                refine ⟨⟨w1, w2, (zsI_g (by decide)).trans w3, (zsI_g (by decide)).trans w4, (zsI_g (by decide)).trans w5, (zsI_g (by decide)).trans w6, (zsI_g (by decide)).trans w7, w8⟩, fun g => ?_⟩
                obtain ⟨t, t1, t2⟩ := tx g
                exact ⟨t, t1, zSt_gf B6.1 B6.2.2.1.1.2.1 B6.2.2.2.2 (zGf_I p (zN h) he 109 (nI wr6.toNat)) t2⟩
              · refine zsI_e.trans ?_
                rw [Q3]
                rfl
end
