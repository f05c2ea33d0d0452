/-! ===== the class: enter ===== -/
theorem zread_u {c : Nat → Nat} {E : zEnv} {ll k t : Nat} {u : Bool} {a : zArg} (h : zread c E ll = some (k, u, t, a)) (hu : u = true) : 10 ≤ k := by
  unfold zread at h
  cases hh : zhead c with
  | none => rw [hh] at h; cases h
  | some x =>
    rw [hh] at h
    obtain ⟨u', x, p⟩ := x
    dsimp only at h
    by_cases q : zcmd x = 0 ∨ u' = true ∧ zcmd x < 10
    · rw [if_pos q] at h; cases h
    rw [if_neg q] at h
    cases hr : zrest c E u' (zcmd x) p with
    | none => rw [hr] at h; cases h
    | some y =>
      rw [hr] at h
      obtain ⟨e, a'⟩ := y
      dsimp only at h
      by_cases el : e = ll
      · rw [if_pos el] at h
        cases h
        exact Nat.le_of_not_lt fun r => q (Or.inr ⟨hu, r⟩)
      · rw [if_neg el] at h
        cases h
theorem zSt_ph {h h' : zH} {c k v : Nat} {T : List Nat} (hx : zFx h) (f : zPh c k h h') (hs : zSt h v T) : zSt h' v T := zSt_nf hx f.1.1 f.2.1 (fun g a i ha hc => by
  have := f.2.2 g a i ha (by omega) (by omega) (by omega)
  exact ⟨this.1, this.2.1⟩) hs
theorem zCg_fo {s : Nat} {m m' : zMm} (hs : s < 3) (f : zfo (zRq s) m m') : zCg m m' := fun g a i q => f g a i (by
  unfold zRq
  rcases q with q | ⟨s', hs', q | ⟨-, q⟩⟩ <;> omega)
theorem zArgOk_g {np : Nat → Prop} {k : Nat} {a a' : zArg} (g : zAg np a a') (h : zArgOk k a) : zArgOk k a' := by
  obtain ⟨g1, g2, g3, g4, g5, g6, g7, -⟩ := g
  unfold zArgOk at h ⊢
  rw [← g1, ← g2, ← g3, ← g5, ← g6, ← g7]
  exact h
section
variable {L : Nat} {xs : Nat → Int32} {h : zH} {m : zMm} {O : zOt} {R : Nat → List Nat} {W : Nat → List (Nat × Nat)} {A : zAS} {K : Nat}
/-- only a session's reply and its line are others -/
theorem zKJ_L {m' : zMm} {s : Nat} {T L' : List Nat} (z : zKJ h m O R W A) (hs : s < 3) (fr : ∀ g a i, ¬ (g = 354 ∧ a = 111 + 7 * s) → ¬ (a = 113 + 7 * s ∨ a = 114 + 7 * s) → m' g a i = m g a i) (rp : zcL m' s ≤ 1024 ∧ zcp m' s = T) : zKJ h m' O R W (zsS A s (zaC A s, zaQ A s, zaV A s, T, L')) := by
  have k := z.2.2.1 s hs
  have g1 : zGl h m' O R (zup W s (W s)) := by
    rw [zup_id]
    exact zGl_m z.1 (fun b hb => fr _ _ _ (by omega) (by omega)) (fun s' hs' => ⟨fr _ _ _ (by omega) (by omega), fun i => fr _ _ _ (by omega) (by omega)⟩)
  have r := zKJ_S (S := (zaC A s, zaQ A s, zaV A s, T, L')) z hs g1 (fun g a i ha => fr _ _ _ (by omega) (by omega)) (fun s' hs' e g a i h1 h2 => fr _ _ _ (by omega) (by omega)) (fun _ _ _ => rfl) (by
    unfold zKT
    rw [zaC_S, zaQ_S, zaV_S, zaT_S, if_pos rfl, if_pos rfl, if_pos rfl, if_pos rfl, zup_id, fr 353 _ _ (by omega) (by omega), fr 356 _ _ (by omega) (by omega), fr 403 _ _ (by omega) (by omega)]
    refine ⟨k.1, k.2.1, k.2.2.1, rp, k.2.2.2.2.1, ?_⟩
    have q := k.2.2.2.2.2
    cases e : zaQ A s with
    | none => rw [e] at q; exact q
    | some x => rw [e] at q; exact q)
  rw [zup_id] at r
  exact r
/-- the lines, once a session's is empty -/
theorem zKL_end {A' : zAS} {m4 m' : zMm} {s : Nat} {S : zSs} (z : zKI h m O R W A) (hS : S.2.2.2.2 = []) (oth : ∀ s', s' ≠ s → zaL A' s' = zaL A s') (c4 : ∀ g a i, ¬ (g = 354 ∧ a = 111 + 7 * s) → ¬ (a = 113 + 7 * s ∨ a = 114 + 7 * s) → m4 g a i = m g a i) (c0 : m4 354 (111 + 7 * s) 0 = 0) (cg : zCg m4 m') : ∀ s', s' < 3 → s < 3 → zKL m' (zsS A' s S) s' := by
  intro s' hs' hs
  unfold zKL zacl
  rw [zaL_S]
  by_cases e : s' = s
  · rw [if_pos e, hS, e, cg _ _ _ (Or.inr ⟨s, hs, Or.inr ⟨rfl, rfl⟩⟩), c0]
    exact ⟨rfl, fun i hi => absurd hi (Nat.not_lt_zero i)⟩
  · rw [if_neg e, oth s' e, cg _ _ _ (Or.inr ⟨s', hs', Or.inr ⟨rfl, rfl⟩⟩), c4 _ _ _ (by omega) (by omega)]
    have k := (z.2.2.1 s' hs').2.2.2.2.1
    refine ⟨k.1, fun i hi => ?_⟩
    rw [cg _ _ _ (Or.inr ⟨s', hs', Or.inl rfl⟩), c4 _ _ _ (by omega) (by omega)]
    exact k.2 i hi
theorem s72 (z : zKI h m O R W A) (C : zCI K A) (hK : K ≤ 63) (p : Int32) : ∃ h' m' O' R' W', zCl (zPr L xs) 72 [.ref 100, .int p] (zMH h m) = some (zan (zcE A p).1 (some (.int (nI (zcE A p).2.1))), zMH h' m') ∧ zKI h' m' O' R' W' (zcE A p).2.2 ∧ zKfr 70 400 h h' m m' := by
  have hx := z.1.1
  have n0 := hx.1
  rw [en_72]
  unfold zcE
  rcases zsn_c p with ⟨e, -⟩ | ⟨s, hs, ep, e⟩
  · rw [e]
    exact ⟨_, _, O, R, W, Eq.trans (zEv_go lk_72_0 rfl) (Eq.trans (zEv_go lk_72_1 rfl) (k_cvx (a := 100) lk_72_2 rfl rfl (Or.inl (xT_100 hx)) rfl rfl (rk_80 _) (by decide) (s80n hx e) (zhand_n rfl))), zKI_x z, zKfr_w zKfr_x (by decide) (by decide)⟩
  rw [e, ep]
  dsimp only
  have k := z.2.2.1 s hs
  have k1 := k.1
  by_cases c : zaC A s = false
  · rw [if_pos c]
    rw [c] at k1
    exact ⟨_, _, O, R, W, Eq.trans (zEv_go lk_72_0 rfl) (Eq.trans (zEv_go lk_72_1 rfl) (k_cvx (a := 100) lk_72_2 rfl rfl (Or.inl (xT_100 hx)) rfl rfl (rk_80 _) (by decide) (s80x hx hs k1) (zhand_n rfl))), zKI_x z, zKfr_w zKfr_x (by decide) (by decide)⟩
  rw [if_neg c]
  have c' : zaC A s = true := by cases t : zaC A s with
    | true => rfl
    | false => exact absurd t c
  rw [c'] at k1
  have e80 := s80 (L := L) (xs := xs) (m := m) hx hs k1
  have cl := C.2 s hs
  obtain ⟨len, hlen⟩ : ∃ n, n = (zaL A s).length := ⟨_, rfl⟩
  have l354 : m 354 (111 + 7 * s) 0 = len := by rw [hlen]; exact k.2.2.2.2.1.1
  -- the reader
  have hxN : zFx (zNew h 5 0 6) := zFx_new hx
  have e24 := s24 (L := L) (xs := xs) (m := m) (p := zN h) (q := len) (s := s) hxN hs zNew_T (by omega)
  obtain ⟨h2, hh2⟩ : ∃ h2, h2 = zsR (zsI (zsR (zNew h 5 0 6) 250 (zN h) 0 (some (112 + 7 * s))) 251 (zN h) 0 (nI len)) 252 (zN h) 0 (some (115 + 7 * s)) := ⟨_, rfl⟩
  rw [← hh2] at e24
  have hx2 : zFx h2 := by rw [hh2]; exact zFx_sRd (zFx_sRd hxN (by omega)) (by omega)
  have aw2 : zAw h h2 := by rw [hh2]; exact zAw_R (zAw_I (zAw_R zAw_new (Nat.le_refl _)) (Nat.le_refl _)) (Nat.le_refl _)
  have nh2 : zN h2 = zN h + 1 := by rw [hh2]; rfl
  have T2 : zT h2 (zN h) = 5 := by rw [hh2]; exact zNew_T (h := h) (t := 5) (n := 0) (k := 6)
  have rr : zRr h2 (zN h) s len 0 false false := by
    refine ⟨⟨⟨n0, by omega⟩, T2, Nat.zero_le _, by rw [hlen]; exact cl.2.1⟩, ?_, ?_, ?_, ?_, ?_, ?_⟩
    · rw [hh2, zsR_g (by decide)]; exact zsR_e
    · rw [hh2]; exact zsR_e
    · rw [hh2]; exact zsI_e
    · rw [hh2]; exact (zsI_g (by decide) : zI (zsI _ 251 (zN h) 0 (nI len)) 253 (zN h) 0 = _).trans (if_pos rfl)
    · rw [hh2]; exact (zsI_g (by decide) : zI (zsI _ 251 (zN h) 0 (nI len)) 254 (zN h) 0 = _).trans (if_pos rfl)
    · rw [hh2]; exact (zsI_g (by decide) : zI (zsI _ 251 (zN h) 0 (nI len)) 255 (zN h) 0 = _).trans (if_pos rfl)
  have zc : ∀ i, zacl A s i = if i < len then m 0 (112 + 7 * s) i else 0 := fun i => by
    by_cases q : i < len
    · rw [if_pos q]
      exact (k.2.2.2.2.1.2 i (by omega)).symm
    · rw [if_neg q]
      unfold zacl
      rw [List.getElem?_eq_none (by omega)]
      rfl
  have hch : ∀ i, zacl A s i < 127 := fun i => by
    unfold zacl
    cases t : (zaL A s)[i]? with
    | none => exact (by decide : 0 < 127)
    | some x => exact cl.2.2.1 x (List.mem_of_getElem? t)
  obtain ⟨h3, x, e25, gf, ⟨hx3, hw3, nn, t3⟩, rd⟩ := s25 (L := L) (xs := xs) hx2 hs (c := zacl A s) (len := len) ⟨zc, hch⟩ ((zGl_aw z.1 hx2 aw2).2.2 s hs) rr
  have aw3 : zAw h h3 := zAw_gf aw2 gf (Nat.le_refl _) (by omega)
  have zJ := zKJ_aw (zKI_j z) hx3 aw3
  have cnt : zN h ≤ zN h3 ∧ zC h3 ≤ zC h + 53 ∧ zS h3 ≤ zS h + 224 := by
    have a1 : zC h2 = zC h + 1 := by rw [hh2]; rfl
    have a2 : zS h2 = zS h + 6 := by rw [hh2]; rfl
    have := gf.1
    omega
  have l154 : ∀ i, zL h3 0 154 i = zL h 0 154 i := fun i => ((aw3.2 154 (by omega)).2 0 i).2.2
  have kt := zJ.2.2.1 s hs
  have hQ : W s = [] ∨ ∃ b w R', zaQ A s = some (b, w) ∧ zaM A b = zMs O R' ∧ zLk O R' (W s) := by
    have k7 := kt.2.2.2.2.2
    cases hq : zaQ A s with
    | none => rw [hq] at k7; exact Or.inl k7
    | some q =>
      rw [hq] at k7
      exact Or.inr ⟨q.1, q.2, R q.1, rfl, (z.2.1 q.1 k7.1).2.2.2.1, k7.2.1⟩
  have cg := zread_cgg (c := zacl A s) (zEc_ok (c := zacl A s) kt.2.2.2.2.1 hQ) len
  obtain ⟨cc, hcc⟩ : ∃ cc, cc = zacl A s := ⟨_, rfl⟩
  rw [← hcc] at cg rd hch ⊢
  rw [← l354] at e24
  rw [← hlen]
  unfold zRd at rd
  rcases cg with ⟨g1, g2⟩ | ⟨k', u, t, a, a', g1, g2, ga⟩
  · -- no command
    rw [g1] at rd
    rw [g2]
    have rd : x = .null := rd
    rw [rd] at e25
    refine ⟨_, _, O, R, W, n72_0_1 hx hs e80 e24 hx2 T2 e25 hx3, ?_, ?_⟩
    · have zz := zKJ_L (L' := []) (T := zaT A s) (m' := u3 m 354 (111 + 7 * s) 0 0) zJ hs (fun g a i n1 _ => if_neg fun q => n1 ⟨q.1, q.2.1⟩) (by
        have f : ∀ g a i, ¬ (a = 111 + 7 * s) → u3 m 354 (111 + 7 * s) 0 0 g a i = m g a i := fun g a i n => u3_a n
        have e : zcL (u3 m 354 (111 + 7 * s) 0 0) s = zcL m s := f _ _ _ (by omega)
        refine ⟨by rw [e]; exact kt.2.2.2.1.1, ?_⟩
        rw [← kt.2.2.2.1.2]
        unfold zcp
        rw [e]
        exact List.map_congr_left fun i _ => f _ _ _ (by omega))
      have fr : ∀ g a i, ¬ (g = 354 ∧ a = 111 + 7 * s) → ¬ (a = 113 + 7 * s ∨ a = 114 + 7 * s) → u3 m 354 (111 + 7 * s) 0 0 g a i = m g a i := fun g a i n1 _ => if_neg fun q => n1 ⟨q.1, q.2.1⟩
      exact zKI_of zz fun s' hs' => zKL_end (A' := A) (m4 := u3 m 354 (111 + 7 * s) 0 0) (S := (zaC A s, zaQ A s, zaV A s, zaT A s, [])) z rfl (fun _ _ => rfl) fr (u3_eq _ _ _ _ _) (zCg_rf _) s' hs' hs
    · refine ⟨⟨cnt.1, ?_, ?_⟩, l154, fun g a i ha => u3_a (by omega)⟩
      · show zC h3 + 1 ≤ _
        omega
      · show zS h3 + 6 ≤ _
        omega
  -- a command
  rw [g1] at rd
  rw [g2]
  obtain ⟨ex, ⟨k1', k13⟩, ⟨y, zq, sty⟩, v9⟩ := rd
  rw [ex] at e25
  obtain ⟨-, t2, aok⟩ := zread_f g2
  have hu10 := zread_u g2
  obtain ⟨⟨w1, w2, v2, v3, v4, v6, v7, v8⟩, v5⟩ := zq
  obtain ⟨ga1, ga2, ga3, ga4, ga5, ga6, ga7, ga8⟩ := id ga
  rw [ga1] at v3
  rw [ga2] at v4
  rw [ga3] at v6
  rw [ga6] at v7
  rw [zMk_gp (P' := a'.2.2.2.2.2.2.2) ga8] at v8
  rw [ga4, ga5] at v5
  rw [ga7] at v9
  have q154 : 154 ≤ zN h2 := by omega
  -- the reply is emptied, and the line
  obtain ⟨m4, hm4⟩ : ∃ m4, m4 = u3 (u3 m 354 (111 + 7 * s) 0 0) 301 (113 + 7 * s) 0 0 := ⟨_, rfl⟩
  have c4 : ∀ g a i, ¬ (g = 354 ∧ a = 111 + 7 * s) → ¬ (a = 113 + 7 * s ∨ a = 114 + 7 * s) → m4 g a i = m g a i := fun g a i n1 n2 => by
    rw [hm4]
    unfold u3
    rw [if_neg (fun q => n2 (Or.inl q.2.1)), if_neg (fun q => n1 ⟨q.1, q.2.1⟩)]
  have c40 : m4 354 (111 + 7 * s) 0 = 0 := by rw [hm4, u3_g (by decide), u3_eq]
  have r40 : zcL m4 s = 0 := by rw [hm4]; exact u3_eq _ _ _ _ _
  have hi4 : ∀ g a i, 132 ≤ a → m4 g a i = m g a i := fun g a i ha => c4 g a i (by omega) (by omega)
  have z4 : zKJ h3 m4 O R W (zaVT A s (zaV A s) []) := zKJ_L zJ hs c4 ⟨by rw [r40]; decide, by unfold zcp; rw [r40]; rfl⟩
  obtain ⟨A0, hA0⟩ : ∃ A0, A0 = zaVT A s (zaV A s) [] := ⟨_, rfl⟩
  rw [← hA0] at z4
  have e83 := s83 (L := L) (xs := xs) (k := k') z4 hs q154 t3 ⟨k1', k13⟩ w1 v9 v3 v8 aok
  rw [hA0, zrf_T, hm4] at e83
  have T0 : zaT A0 s = [] := by rw [hA0]; unfold zaVT; rw [zaT_S, if_pos rfl]
  have tagT : (List.range t).map (fun i => cc i) = (List.range t).map cc := rfl
  rw [tagT] at sty
  unfold zEd
  dsimp only
  by_cases rf : zrf A s k' a' = true
  · -- refused
    rw [if_pos rf]
    rw [rf] at e83
    obtain ⟨m5, e5, y5⟩ := s45 (L := L) (xs := xs) hx3 hs (m := m4) (by rw [r40]; decide) sty
    obtain ⟨m6, e6, y6⟩ := s45 (L := L) (xs := xs) (p := 38) hx3 hs y5.2.1 (zSt_k hx3 (by decide))
    have yy := zSy_tr y5 y6
    have okT : zByt.getD (38 - 20) [] = zokt false := rfl
    rw [okT] at yy
    rw [hm4] at e5
    have lenT : ((List.range t).map cc ++ zokt false).length ≤ 5 := (zTk_tag hch t2 false).1
    have rp := zRy_eq (T := []) ⟨yy.2.1, yy.2.2⟩ (by unfold zcp; rw [r40]; rfl) (by rw [List.nil_append]; omega)
    rw [List.nil_append] at rp
    have zz := zKJ_L (L' := []) z4 hs (fun g a i _ n2 => yy.1 g a i n2) rp
    have zz : zKJ h3 m6 O R W (zfin A s ((List.range t).map cc ++ zokt false)) := by
      rw [hA0] at zz
      have e : zfin (zaVT A s (zaV A s) []) s ((List.range t).map cc ++ zokt false) = zfin A s ((List.range t).map cc ++ zokt false) := zfin_T
      rw [← e]
      exact zz
    refine ⟨h3, m6, O, R, W, p72_0_13 (v := 0) (y4 := true) hx hs (by decide) e80 e24 hx2 T2 e25 hx3 e83 rfl t3 w2 e5 rfl e6 rfl, zKI_of zz fun s' hs' => zKL_end (s := s) z rfl (fun _ _ => rfl) c4 c40 (zCg_fo hs yy.1) s' hs' hs, ⟨cnt.1, by omega, by omega⟩, l154, fun g a i ha => ?_⟩
    exact (zCg_fo hs yy.1 g a i (Or.inl ha)).trans (hi4 g a i ha)
  · -- performed
    rw [if_neg rf]
    have rf' : zrf A s k' a' = false := by cases z : zrf A s k' a' with
      | true => exact absurd z rf
      | false => rfl
    rw [rf'] at e83
    have i0 : zAI K A0 := by
      rw [hA0]
      exact zAI_keep (A := A) rfl rfl (fun s' => by
        unfold zaVT
        rw [zaV_S, zaQ_S]
        by_cases q : s' = s
        · rw [if_pos q, if_pos q, q]; exact ⟨rfl, rfl⟩
        · rw [if_neg q, if_neg q]; exact ⟨rfl, rfl⟩) C.1
    have rf0 : zrf A0 s k' a' = false := by rw [hA0, zrf_T]; exact rf'
    have P := zPf_ok (c := cc) (u := u) (a := a') (by omega : K ≤ 64) i0 hs ⟨k1', k13⟩ rf0 (fun _ => aok.1.1) (fun _ => aok.1.2.1) (fun _ => aok.1.2.2.2.1) hch T0
    have PP := zTl_ptell (c := cc) (u := u) i0 ⟨k1', k13⟩ aok.1.1 rf0 hu10
    obtain ⟨h5, m5, O5, R5, W5, e85, z5, ph, cg5⟩ := s85 (L := L) (xs := xs) (c := cc) (u := u) z4 i0 (by omega) hs q154 t3 ⟨k1', k13⟩ w1 v2 v3 v4 v5 v6 v7 v8 aok rf0 (by have := P.2.1.1; omega)
    obtain ⟨A1, hA1⟩ : ∃ A1, A1 = zPf A0 s cc k' u a' := ⟨_, rfl⟩
    rw [← hA0]
    rw [← hA1] at P PP z5 ⊢
    obtain ⟨i1, tk1, ow1⟩ := P
    have PT := zPtell_ok (k := k') (u := u) (by omega : K + 1 ≤ 65) i1 hs tk1
    rw [PP] at PT ⊢
    obtain ⟨gg, hgg⟩ : ∃ g, g = (u || !decide (k' = 10 ∨ k' = 11 ∨ k' = 13)) := ⟨_, rfl⟩
    rw [← hgg] at PT ⊢
    obtain ⟨i2, tk2, ow2, q2⟩ := PT
    obtain ⟨h6, m6, W6, e58, z6, f6, cg6⟩ := s58k (L := L) (xs := xs) z5 i1 (by omega) hs gg (by have := tk2.1; omega)
    obtain ⟨A2, hA2⟩ : ∃ A2, A2 = zTl A1 s gg := ⟨_, rfl⟩
    rw [← hA2] at i2 tk2 ow2 q2 z6 ⊢
    have hx5 := z5.1.1
    have hx6 := z6.1.1
    have lq : zN h2 < zN h3 := nn
    have q5 := ph.2.2
    have tq5 : zT h5 (zN h2) = 2 := (ph.2.1 _ lq).1.trans t3
    have f5 : ∀ g, zI h5 g (zN h2) 0 = zI h3 g (zN h2) 0 ∧ zR h5 g (zN h2) 0 = zR h3 g (zN h2) 0 := fun g => by
      have := q5 g (zN h2) 0 lq (by rw [t3]; decide) (by rw [t3]; decide) (by rw [t3]; decide)
      exact ⟨this.1, this.2.1⟩
    have l5 : zN h2 < zN h5 := Nat.lt_of_lt_of_le lq ph.1.1
    have tq6 : zT h6 (zN h2) = 2 := (f6.2.1 _ l5).1.trans tq5
    have r6 : zR h6 100 (zN h2) 0 = some y := by
      rw [(f6.2.2 100 (zN h2) 0 l5 (by rw [tq5]; decide) (by rw [tq5]; decide)).2.1, (f5 100).2]
      exact w2
    have st6 := zSt_ph hx5 (zPh_of f6) (zSt_ph hx3 ph sty)
    have k6 := z6.2.2.1 s hs
    obtain ⟨m7, e7, y7⟩ := s45 (L := L) (xs := xs) hx6 hs k6.2.2.2.1.1 st6
    obtain ⟨m8, e8, y8⟩ := s45 (L := L) (xs := xs) (p := 39) hx6 hs y7.2.1 (zSt_k hx6 (by decide))
    have yy := zSy_tr y7 y8
    have okT : zByt.getD (39 - 20) [] = zokt true := rfl
    rw [okT] at yy
    have lenT : ((List.range t).map cc ++ zokt true).length ≤ 5 := (zTk_tag hch t2 true).1
    have rp := zRy_eq ⟨yy.2.1, yy.2.2⟩ k6.2.2.2.1.2 (by rw [List.length_append]; have := tk2.1; omega)
    have zz := zKJ_L (L' := []) z6 hs (fun g a i _ n2 => yy.1 g a i n2) rp
    have cga : zCg m4 m8 := zCg_tr (zCg_tr cg5 cg6) (zCg_fo hs yy.1)
    have ow0 : ∀ s', s' ≠ s → A0.2.1 s' = A.2.1 s' := fun s' q => by rw [hA0]; exact zup_ne q
    have lin : ∀ s', s' ≠ s → zaL A2 s' = zaL A s' := fun s' q => congrArg (fun S : zSs => S.2.2.2.2) ((ow2.1 s' q).trans ((ow1.1 s' q).trans (ow0 s' q)))
    rw [hm4] at e85
    refine ⟨h6, m8, O5, R5, W6, ?_, zKI_of zz fun s' hs' => zKL_end (s := s) z rfl lin c4 c40 cga s' hs' hs, ⟨?_, ?_, ?_⟩, fun i => ?_, fun g a i ha => (cga g a i (Or.inl ha)).trans (hi4 g a i ha)⟩
    · have hv : k' - 1 < 13 := by omega
      have r5 := (f5 101).2.trans w1
      have vz : ∀ v, v < 13 → (((zVb 3).getD v 0) ≠ 0 ↔ (v + 1 = 10 ∨ v + 1 = 11 ∨ v + 1 = 13)) := by decide
      have vk := vz (k' - 1) hv
      rw [show k' - 1 + 1 = k' from by omega] at vk
      by_cases kp : (zVb 3).getD (k' - 1) 0 ≠ 0
      · have dk : decide (k' = 10 ∨ k' = 11 ∨ k' = 13) = true := decide_eq_true (vk.mp kp)
        rw [dk] at hgg
        cases hu : u with
        | true =>
          rw [hu] at hgg v2
          rw [hgg] at e58
          exact p72_0_4 (v := k' - 1) (y4 := false) (x1 := 1) hx hs hv e80 e24 hx2 T2 e25 hx3 e83 rfl e85 hx5 tq5 r5 kp ((f5 102).1.trans v2) (by decide) e58 hx6 tq6 r6 e7 rfl e8 rfl
        | false =>
          rw [hu] at hgg v2
          rw [hgg] at e58
          exact p72_0_8 (v := k' - 1) (y4 := false) (x1 := 0) hx hs hv e80 e24 hx2 T2 e25 hx3 e83 rfl e85 hx5 tq5 r5 kp ((f5 102).1.trans v2) rfl e58 hx6 tq6 r6 e7 rfl e8 rfl
      · have dk : decide (k' = 10 ∨ k' = 11 ∨ k' = 13) = false := decide_eq_false (fun q => kp (vk.mpr q))
        rw [dk, Bool.not_false, Bool.or_true] at hgg
        rw [hgg] at e58
        exact p72_0_12 (v := k' - 1) (y4 := false) hx hs hv e80 e24 hx2 T2 e25 hx3 e83 rfl e85 hx5 tq5 r5 (Classical.not_not.mp kp) e58 hx6 tq6 r6 e7 rfl e8 rfl
    · exact Nat.le_trans cnt.1 (Nat.le_trans ph.1.1 f6.1.1)
    · have := ph.1.2.1; have := f6.1.2.1; omega
    · have := ph.1.2.2; have := f6.1.2.2; omega
    · have l3 := hx3.1
      have a1 := (ph.2.2 0 154 i (by omega) (by rw [xT_154 hx3]; decide) (by rw [xT_154 hx3]; decide) (by rw [xT_154 hx3]; decide)).2.2
      have l5' := hx5.1
      have a2 := (f6.2.2 0 154 i (by omega) (by rw [xT_154 hx5]; decide) (by rw [xT_154 hx5]; decide)).2.2
      exact a2.trans (a1.trans (l154 i))
end
