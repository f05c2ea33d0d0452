/-! ===== the class: type ===== -/
theorem zbt_u (q : Int32) {i : Nat} (hi : i < 4) : ((q.toUInt32 >>> ((nI (8 * i)).toUInt32 &&& Int32.toUInt32 31)).toInt32) &&& nI 255 = nI (zbt q i) := by
  have e : ∀ i, i < 4 → ((nI (8 * i)).toUInt32 &&& Int32.toUInt32 31).toNat % 32 = 8 * i := by decide
  apply Int32.toBitVec_inj.mp
  apply BitVec.eq_of_toNat_eq
  show ((q.toUInt32 >>> ((nI (8 * i)).toUInt32 &&& Int32.toUInt32 31)).toBitVec &&& 255#32).toNat = (BitVec.ofNat 32 (zbt q i)).toNat
  rw [BitVec.toNat_and, BitVec.toNat_ofNat, BitVec.toNat_ofNat, Nat.mod_eq_of_lt (show zbt q i < 2 ^ 32 from Nat.lt_trans (zbt_lt q i) (by decide))]
  show (q.toUInt32 >>> ((nI (8 * i)).toUInt32 &&& Int32.toUInt32 31)).toNat &&& (2 ^ 8 - 1) = q.toBitVec.toNat / 2 ^ (8 * i) % 256
  rw [UInt32.toNat_shiftRight, e i hi, Nat.shiftRight_eq_div_pow, Nat.and_two_pow_sub_one_eq_mod]
  rfl
section
variable {L : Nat} {xs : Nat → Int32} {h : zH} {m : zMm} {O : zOt} {R : Nat → List Nat} {W : Nat → List (Nat × Nat)} {A : zAS} {K : Nat}
theorem s82 (hx : zFx h) {q : Int32} {i : Nat} (hi : i < 4) : zCl (zPr L xs) 82 [.int q, .int (nI i)] (zMH h m) = some (.inl (some (.int (nI (zbt q i)))), zMH h m) := by
  rw [en_82]
  have := p82_0_1 (L := L) (xs := xs) (m := m) (p := q) (q := i) hx
  rw [zbt_u q hi] at this
  exact this
/-- the signs are counted: thrown, no room, or room for them all -/
theorem s71a (hx : zFx h) {s : Nat} {q : Int32} (hs : s < 3) (hl : m 354 (111 + 7 * s) 0 ≤ 48) {w0 w1 : Slot} : ∀ (f j : Nat), f + j = 4 → (((zbf q f j).takeWhile fun b => decide (b ≠ 0)).any zbad = true → zEv (zPr L xs) 2 71 12 [w0, w1, .val (.int q), .val (.ref (111 + 7 * s)), .val (.int (nI j)), .val (.int (nI j))] [] (zMH h m) = some (.inr "java/lang/IllegalArgumentException", zMH (zExc h) m)) ∧ (((zbf q f j).takeWhile fun b => decide (b ≠ 0)).any zbad = false → (48 < m 354 (111 + 7 * s) 0 + (j + ((zbf q f j).takeWhile fun b => decide (b ≠ 0)).length) → zEv (zPr L xs) 2 71 12 [w0, w1, .val (.int q), .val (.ref (111 + 7 * s)), .val (.int (nI j)), .val (.int (nI j))] [] (zMH h m) = some (.inl (some (.int (nI 0))), zMH h m)) ∧ (m 354 (111 + 7 * s) 0 + (j + ((zbf q f j).takeWhile fun b => decide (b ≠ 0)).length) ≤ 48 → zEv (zPr L xs) 2 71 12 [w0, w1, .val (.int q), .val (.ref (111 + 7 * s)), .val (.int (nI j)), .val (.int (nI j))] [] (zMH h m) = zEv (zPr L xs) 2 71 83 [w0, w1, .val (.int q), .val (.ref (111 + 7 * s)), .val (.int (nI (j + ((zbf q f j).takeWhile fun b => decide (b ≠ 0)).length))), .val (.int (nI 0))] [] (zMH h m))) := by
  intro f
  induction f with
  | zero =>
    intro j hj
    refine ⟨(fun q => by cases q), fun _ => ⟨fun r => ?_, fun r => ?_⟩⟩
    · have r : 48 < m 354 (111 + 7 * s) 0 + j := r
      exact p71_12_6 hx hs (by omega) r (by omega) (by omega)
    · have r : m 354 (111 + 7 * s) 0 + j ≤ 48 := r
      exact p71_12_7 hx hs (by omega) r (by omega) (by omega)
  | succ f ih =>
    intro j hj
    have j4 : j < 4 := by omega
    have e82 := s82 (L := L) (xs := xs) (m := m) (q := q) hx j4
    have lt := zbt_lt q j
    by_cases z : zbt q j = 0
    · have e : (zbf q (f + 1) j).takeWhile (fun b => decide (b ≠ 0)) = [] := by
        unfold zbf
        rw [List.takeWhile_cons, if_neg (by rw [z]; decide)]
      rw [e]
      refine ⟨(fun q => by cases q), fun _ => ⟨fun r => ?_, fun r => ?_⟩⟩
      · exact p71_12_4 hx hs j4 e82 z (by simpa using r) (by omega) (by omega)
      · exact p71_12_5 hx hs j4 e82 z (by simpa using r) (by omega) (by omega)
    · have e : (zbf q (f + 1) j).takeWhile (fun b => decide (b ≠ 0)) = zbt q j :: (zbf q f (j + 1)).takeWhile (fun b => decide (b ≠ 0)) := by
        conv => lhs; unfold zbf
        rw [List.takeWhile_cons, if_pos (by exact decide_eq_true z)]
      rw [e, List.any_cons, List.length_cons]
      by_cases b : zbad (zbt q j) = true
      · rw [b, Bool.true_or]
        refine ⟨fun _ => ?_, (fun q => by cases q)⟩
        have b' := of_decide_eq_true b
        by_cases c : zbt q j < 32
        · exact p71_12_3 hx hs j4 e82 z e82 c (by omega) (by omega) (by omega)
        · exact p71_12_1 hx hs j4 e82 z e82 (by omega) e82 (by omega) (by omega) (by omega) (by omega) (by omega)
      · have bf : zbad (zbt q j) = false := by cases t : zbad (zbt q j) with
          | true => exact absurd t b
          | false => rfl
        have b' := of_decide_eq_false bf
        rw [bf, Bool.false_or]
        have st := p71_12_2 (L := L) (xs := xs) (m := m) (w0 := w0) (w1 := w1) (x4 := j) hx hs j4 e82 z e82 (by omega) e82 (by omega) (by omega) (by omega) (by omega) (by omega)
        obtain ⟨i1, i2⟩ := ih (j + 1) (by omega)
        rw [show j + (((zbf q f (j + 1)).takeWhile fun b => decide (b ≠ 0)).length + 1) = j + 1 + ((zbf q f (j + 1)).takeWhile fun b => decide (b ≠ 0)).length from by omega]
        exact ⟨fun r => st.trans (i1 r), fun r => ⟨fun r2 => st.trans ((i2 r).1 r2), fun r2 => st.trans ((i2 r).2 r2)⟩⟩
/-- the signs are written -/
theorem s71b (hx : zFx h) {s : Nat} {q : Int32} (hs : s < 3) {w0 w1 : Slot} : ∀ (f k : Nat) (m : zMm), f + k ≤ 4 → m 354 (111 + 7 * s) 0 + f ≤ 48 → (∀ i, k ≤ i → i < k + f → zbt q i < 127) → ∃ m', zEv (zPr L xs) 2 71 83 [w0, w1, .val (.int q), .val (.ref (111 + 7 * s)), .val (.int (nI (f + k))), .val (.int (nI k))] [] (zMH h m) = some (.inl (some (.int (nI 1))), zMH h m') ∧ (∀ g a i, ¬ (g = 354 ∧ a = 111 + 7 * s) → ¬ (g = 0 ∧ a = 112 + 7 * s) → m' g a i = m g a i) ∧ m' 354 (111 + 7 * s) 0 = m 354 (111 + 7 * s) 0 + f ∧ (∀ i, i < m 354 (111 + 7 * s) 0 → m' 0 (112 + 7 * s) i = m 0 (112 + 7 * s) i) ∧ ∀ i, i < f → m' 0 (112 + 7 * s) (m 354 (111 + 7 * s) 0 + i) = zbt q (k + i) := by
  intro f
  induction f with
  | zero =>
    intro k m hk hl hb
    exact ⟨m, p71_83_2 hx hs (by omega) (by omega) (by omega), fun _ _ _ _ _ => rfl, rfl, fun _ _ => rfl, fun i hi => absurd hi (Nat.not_lt_zero i)⟩
  | succ f ih =>
    intro k m hk hl hb
    have e82 := s82 (L := L) (xs := xs) (m := m) (q := q) hx (show k < 4 by omega)
    have lt := hb k (Nat.le_refl _) (by omega)
    have cv : (((nI (zbt q k)).toUInt32 % 65536).toInt32) = nI (zbt q k) := by
      have : ∀ v, v < 127 → (((nI v).toUInt32 % 65536).toInt32) = nI v := by decide
      exact this _ lt
    have st := p71_83_1 (L := L) (xs := xs) (m := m) (w0 := w0) (w1 := w1) (x4 := f + 1 + k) hx hs (by omega) e82 cv (by omega) (by omega) (by omega) (by omega)
    obtain ⟨m1, hm1⟩ : ∃ m1, m1 = u3 (u3 m 0 (112 + 7 * s) (m 354 (111 + 7 * s) 0) (zbt q k)) 354 (111 + 7 * s) 0 (m 354 (111 + 7 * s) 0 + 1) := ⟨_, rfl⟩
    rw [← hm1] at st
    have e1 : m1 354 (111 + 7 * s) 0 = m 354 (111 + 7 * s) 0 + 1 := by rw [hm1, u3_eq]
    have fr : ∀ g a i, ¬ (g = 354 ∧ a = 111 + 7 * s) → ¬ (g = 0 ∧ a = 112 + 7 * s) → m1 g a i = m g a i := fun g a i n1 n2 => by
      rw [hm1]
      unfold u3
      rw [if_neg (fun q => n1 ⟨q.1, q.2.1⟩), if_neg (fun q => n2 ⟨q.1, q.2.1⟩)]
    have ln : ∀ i, m1 0 (112 + 7 * s) i = if i = m 354 (111 + 7 * s) 0 then zbt q k else m 0 (112 + 7 * s) i := fun i => by rw [hm1, u3_g (by decide), u3_at]
    obtain ⟨m', ev, g1, g2, g3, g4⟩ := ih (k + 1) m1 (by omega) (by omega) (fun i a b => hb i (by omega) (by omega))
    rw [show f + 1 + k = f + (k + 1) from by omega] at st ⊢
    refine ⟨m', st.trans ev, fun g a i n1 n2 => (g1 g a i n1 n2).trans (fr g a i n1 n2), by omega, fun i hi => ?_, fun i hi => ?_⟩
    · rw [g3 i (by omega), ln, if_neg (by omega)]
    · by_cases z : i = 0
      · rw [z, Nat.add_zero, Nat.add_zero, g3 _ (by omega), ln, if_pos rfl]
      · have := g4 (i - 1) (by omega)
        rw [e1, show m 354 (111 + 7 * s) 0 + 1 + (i - 1) = m 354 (111 + 7 * s) 0 + i from by omega, show k + 1 + (i - 1) = k + i from by omega] at this
        exact this
theorem zby_at (q : Int32) : ∀ (f j i : Nat), i < ((zbf q f j).takeWhile fun b => decide (b ≠ 0)).length → ((zbf q f j).takeWhile fun b => decide (b ≠ 0))[i]? = some (zbt q (j + i))
  | 0, _, i, h => absurd h (Nat.not_lt_zero i)
  | f + 1, j, i, h => by
    by_cases z : zbt q j = 0
    · have e : (zbf q (f + 1) j).takeWhile (fun b => decide (b ≠ 0)) = [] := by
        unfold zbf
        rw [List.takeWhile_cons, if_neg (by rw [z]; decide)]
      rw [e] at h
      exact absurd h (Nat.not_lt_zero i)
    · have e : (zbf q (f + 1) j).takeWhile (fun b => decide (b ≠ 0)) = zbt q j :: (zbf q f (j + 1)).takeWhile (fun b => decide (b ≠ 0)) := by
        conv => lhs; unfold zbf
        rw [List.takeWhile_cons, if_pos (by exact decide_eq_true z)]
      rw [e] at h ⊢
      cases i with
      | zero => rfl
      | succ i =>
        rw [List.getElem?_cons_succ, zby_at q f (j + 1) i (by rw [List.length_cons] at h; omega), show j + 1 + i = j + (i + 1) from by omega]
theorem s71 (z : zKI h m O R W A) (C : zCI K A) (p q : Int32) : ∃ h' m', zCl (zPr L xs) 71 [.ref 100, .int p, .int q] (zMH h m) = some (zan (zaTy A p q).1 (some (.int (nI (zaTy A p q).2.1.toNat))), zMH h' m') ∧ zKI h' m' O R W (zaTy A p q).2.2 ∧ zKfr 1 6 h h' m m' := by
  have hx := z.1.1
  rw [en_71]
  unfold zaTy
  rcases zsn_c p with ⟨e, -⟩ | ⟨s, hs, ep, e⟩
  · rw [e]
    exact ⟨_, _, Eq.trans (zEv_go lk_71_0 rfl) (Eq.trans (zEv_go lk_71_1 rfl) (k_cvx (a := 100) lk_71_2 rfl rfl (Or.inl (xT_100 hx)) rfl rfl (rk_80 _) (by decide) (s80n hx e) (zhand_n rfl))), zKI_x z, zKfr_x⟩
  rw [e, ep]
  dsimp only
  have k := z.2.2.1 s hs
  have k1 := k.1
  by_cases c : zaC A s = false
  · rw [if_pos c]
    rw [c] at k1
    exact ⟨_, _, Eq.trans (zEv_go lk_71_0 rfl) (Eq.trans (zEv_go lk_71_1 rfl) (k_cvx (a := 100) lk_71_2 rfl rfl (Or.inl (xT_100 hx)) rfl rfl (rk_80 _) (by decide) (s80x hx hs k1) (zhand_n rfl))), zKI_x z, zKfr_x⟩
  rw [if_neg c]
  have c' : zaC A s = true := by cases t : zaC A s with
    | true => rfl
    | false => exact absurd t c
  rw [c'] at k1
  have cl := C.2 s hs
  have l48 : m 354 (111 + 7 * s) 0 ≤ 48 := by rw [k.2.2.2.2.1.1]; exact cl.2.1
  have a0 := p71_0_1 (L := L) (xs := xs) (q := q) hx hs (s80 (m := m) hx hs k1)
  obtain ⟨a1, a2⟩ := s71a (L := L) (xs := xs) (m := m) (q := q) (w0 := .val (.ref 100)) (w1 := .val (.int (nI s))) hx hs l48 4 0 rfl
  have ez : (zbf q 4 0).takeWhile (fun b => decide (b ≠ 0)) = zby q := rfl
  rw [ez] at a1 a2
  by_cases b : (zby q).any zbad = true
  · rw [if_pos b]
    exact ⟨_, _, a0.trans (a1 b), zKI_x z, zKfr_x⟩
  rw [if_neg b]
  have bf : (zby q).any zbad = false := by cases t : (zby q).any zbad with
    | true => exact absurd t b
    | false => rfl
  rw [Nat.zero_add] at a2
  obtain ⟨a3, a4⟩ := a2 bf
  rw [k.2.2.2.2.1.1] at a3 a4
  by_cases r : 48 < (zaL A s).length + (zby q).length
  · rw [if_pos r]
    exact ⟨h, m, a0.trans (a3 r), z, zKfr_w zKfr_rf (by decide) (by decide)⟩
  rw [if_neg r]
  have l4 : (zby q).length ≤ 4 := by
    unfold zby
    exact List.Sublist.length_le (List.takeWhile_sublist _)
  have nb : ∀ i, i < (zby q).length → (zby q)[i]? = some (zbt q i) ∧ zbt q i < 127 := fun i hi => by
    have g : (zby q)[i]? = some (zbt q (0 + i)) := zby_at q 4 0 i hi
    rw [Nat.zero_add] at g
    refine ⟨g, ?_⟩
    have := List.any_eq_false.mp bf _ (List.mem_of_getElem? g)
    have := of_decide_eq_false (Bool.eq_false_iff.mpr this)
    omega
  obtain ⟨m', ev, g1, g2, g3, g4⟩ := s71b (L := L) (xs := xs) (q := q) (w0 := .val (.ref 100)) (w1 := .val (.int (nI s))) hx hs (zby q).length 0 m (by omega) (by rw [k.2.2.2.2.1.1]; omega) (fun i _ hi => (nb i (by omega)).2)
  have fr : ∀ g a i, a ≠ 111 + 7 * s → a ≠ 112 + 7 * s → m' g a i = m g a i := fun g a i n1 n2 => g1 g a i (fun q => n1 q.2) (fun q => n2 q.2)
  refine ⟨h, m', a0.trans ((a4 (by omega)).trans ev), ⟨zGl_m z.1 (fun b hb => fr _ _ _ (by omega) (by omega)) (fun s' hs' => ⟨fr _ _ _ (by omega) (by omega), fun i => fr _ _ _ (by omega) (by omega)⟩), fun b hb => zKB_fr (z.2.1 b hb) (fun g i => fr _ _ _ (by omega) (by omega)) rfl, fun s' hs' => ?_, (fr _ _ _ (by omega) (by omega)).trans z.2.2.2.1, z.2.2.2.2⟩, zKfr_w (zKfr_m fun g a i ha => fr _ _ _ (by omega) (by omega)) (by decide) (by decide)⟩
  by_cases es : s' = s
  · rw [es]
    obtain ⟨k1, k2, k3, k4, k5, k6, k7⟩ := k
    have cp : zcL m' s = zcL m s ∧ zcp m' s = zcp m s := by
      have e : zcL m' s = zcL m s := fr _ _ _ (by omega) (by omega)
      refine ⟨e, ?_⟩
      unfold zcp
      rw [e]
      exact List.map_congr_left fun i _ => fr _ _ _ (by omega) (by omega)
    have f1 : m' 353 (111 + 7 * s) 0 = m 353 (111 + 7 * s) 0 := g1 _ _ _ (fun q => absurd q.1 (by decide)) (fun q => absurd q.1 (by decide))
    have f2 : m' 356 (111 + 7 * s) 0 = m 356 (111 + 7 * s) 0 := g1 _ _ _ (fun q => absurd q.1 (by decide)) (fun q => absurd q.1 (by decide))
    have f3 : m' 403 (115 + 7 * s) 0 = m 403 (115 + 7 * s) 0 := fr _ _ _ (by omega) (by omega)
    unfold zKS zacl
    rw [zaC_S, zaQ_S, zaV_S, zaT_S, zaL_S, if_pos rfl, if_pos rfl, if_pos rfl, if_pos rfl, if_pos rfl, cp.1, cp.2, f1, f2, f3, g2, List.length_append, k5.1]
    refine ⟨k1, k2, k3, k4, ⟨rfl, fun i hi => ?_⟩, k6, ?_⟩
    · by_cases c : i < (zaL A s).length
      · rw [g3 i (by rw [k5.1]; exact c), k5.2 i c, List.getElem?_append_left c]
        rfl
      · have g := g4 (i - (zaL A s).length) (by omega)
        rw [k5.1, show (zaL A s).length + (i - (zaL A s).length) = i from by omega, Nat.zero_add] at g
        rw [g, List.getElem?_append_right (by omega), (nb _ (by omega)).1]
        rfl
    · cases hq : zaQ A s with
      | none =>
        rw [hq] at k7
        exact k7
      | some q =>
        rw [hq] at k7
        exact k7
  · exact zKS_fr (z.2.2.1 s' hs') (fun g a i h1 h2 => fr _ _ _ (by omega) (by omega)) rfl (zup_ne es) (fun b hb => rfl)
end
