/-! ===== the law's loop ===== -/
/-- the reference's memory under the class's writes -/
theorem zMOk_hi {m m' : zMm} (f : ∀ g a i, 132 ≤ a → m' g a i = m g a i) {N : Nat} (h : zMOk N m) : zMOk N m' := by
  have e : ∀ a i, 132 ≤ a → m' 0 a i = m 0 a i := fun a i ha => f 0 a i ha
  obtain ⟨h1, h2, h3, h4, h5⟩ := h
  refine ⟨fun i hi => ?_, fun k hk => ?_, fun b hb => ?_, fun s hs => ?_, ?_⟩
  · rw [e 137 _ (by decide), e 138 _ (by decide), e 139 _ (by decide)]
    have := h1 i hi
    exact ⟨this.1, this.2.1, this.2.2.1, fun k hk => by rw [e 140 _ (by decide)]; exact this.2.2.2 k hk⟩
  · rw [e 145 _ (by decide), e 146 _ (by decide)]
    exact h2 k hk
  · rw [e 133 _ (by decide), e 136 _ (by decide), e 135 _ (by decide), e 134 _ (by decide)]
    exact h3 b hb
  · rw [e 141 _ (by decide), e 143 _ (by decide), e 144 _ (by decide), e 142 _ (by decide)]
    exact h4 s hs
  · rw [f 509 132 _ (by decide)]
    exact h5
theorem zRb_hi {m m' : zMm} (f : ∀ g a i, 132 ≤ a → m' g a i = m g a i) {A : zAS} (h : zRb m A) : zRb m' A := by
  have e : ∀ a i, 132 ≤ a → m' 0 a i = m 0 a i := fun a i ha => f 0 a i ha
  have x : ∀ j, ztx m' j = ztx m j := fun j => by
    unfold ztx
    rw [e 139 _ (by decide)]
    exact List.map_congr_left fun k _ => e 140 _ (by decide)
  have g : ∀ j, zmg m' j = zmg m j := fun j => by
    unfold zmg
    rw [e 137 _ (by decide), e 138 _ (by decide), x]
  have bm : ∀ b, zbm m' b = zbm m b := fun b => by
    unfold zbm
    rw [e 136 _ (by decide)]
    exact List.map_congr_left fun k _ => g _
  have vw : ∀ s, zvw m' s = zvw m s := fun s => by
    unfold zvw
    rw [e 144 _ (by decide)]
    exact List.map_congr_left fun k _ => by rw [e 145 _ (by decide), e 146 _ (by decide)]
  have rp : ∀ s, zrp m' s = zrp m s := fun s => by
    unfold zrp
    rw [e 150 _ (by decide)]
    exact List.map_congr_left fun k _ => e 149 _ (by decide)
  have ln : ∀ s, zln m' s = zln m s := fun s => by
    unfold zln
    rw [e 148 _ (by decide)]
    exact List.map_congr_left fun k _ => e 147 _ (by decide)
  obtain ⟨h1, h2, h3⟩ := h
  refine ⟨fun b hb => ?_, fun s hs => ?_, (f 509 132 _ (by decide)).trans h3⟩
  · rw [← h1 b hb]
    unfold zbx
    rw [e 133 _ (by decide), e 134 _ (by decide), e 135 _ (by decide), bm]
  · rw [← h2 s hs]
    unfold zss zsq
    rw [e 141 _ (by decide), e 142 _ (by decide), e 143 _ (by decide), vw, rp, ln]
theorem zRI_hi {B0 m m' : zMm} {K : Nat} {A : zAS} (h : zRI B0 K A m) (f : ∀ g a i, 132 ≤ a → m' g a i = m g a i) : zRI m' K A m' := by
  obtain ⟨h1, h2, h3, ⟨h4, -⟩, h5⟩ := h
  exact ⟨zMOk_hi f h1, zRb_hi f h2, h3, ⟨by rw [f 520 132 _ (by decide)]; exact h4, fun _ _ _ _ => rfl⟩, h5⟩
theorem zRI_w {B0 m : zMm} {K K' : Nat} {A : zAS} (h : zRI B0 K A m) (hk : K ≤ K') : zRI B0 K' A m := ⟨h.1, h.2.1, zAI_w h.2.2.1 hk, h.2.2.2⟩
/-- the class's cells under the reference's writes -/
theorem zKI_lo {h : zH} {m m' : zMm} {O : zOt} {R : Nat → List Nat} {W : Nat → List (Nat × Nat)} {A : zAS} (z : zKI h m O R W A) (f : zLw m m') : zKI h m' O R W A := ⟨zGl_m z.1 (fun b hb => f _ _ _ (by omega)) (fun s hs => ⟨f _ _ _ (by omega), fun i => f _ _ _ (by omega)⟩), fun b hb => zKB_fr (z.2.1 b hb) (fun g i => f _ _ _ (by omega)) rfl, fun s hs => zKS_fr (z.2.2.1 s hs) (fun g a i h1 h2 => f _ _ _ (by omega)) rfl rfl (fun b hb => rfl), (f _ _ _ (by decide)).trans z.2.2.2.1, z.2.2.2.2⟩
theorem zKI_hL {h h' : zH} {m : zMm} {O : zOt} {R : Nat → List Nat} {W : Nat → List (Nat × Nat)} {A : zAS} (z : zKI h m O R W A) (f : zhL h h') : zKI h' m O R W A := by
  rcases f with rfl | ⟨x, rfl⟩
  · exact z
  · exact z
theorem zsL_g {h : zH} {g a i g' a' i' : Nat} {x : Int64} (n : g' ≠ g) : zL (zsL h g a i x) g' a' i' = zL h g' a' i' := if_neg fun q => n q.1
theorem zhL_154 {h h' : zH} (f : zhL h h') : zL h' 0 154 0 = zL h 0 154 0 := by
  rcases f with rfl | ⟨x, rfl⟩
  · rfl
  · exact zsL_g (by decide)
theorem zhL_c {h h' : zH} (f : zhL h h') : zN h' = zN h ∧ zC h' = zC h ∧ zS h' = zS h := by
  rcases f with rfl | ⟨x, rfl⟩
  · exact ⟨rfl, rfl, rfl⟩
  · exact ⟨rfl, rfl, rfl⟩
theorem zl_eq_v {x : Int64} {v : Nat} (h : x = nL v) : lg_cmp x (nL v) = 0 := (zl_cmp0 _ _).mpr h
theorem zand7 (x : Int32) : ∃ j, j < 8 ∧ x &&& nI 7 = nI j := by
  obtain ⟨n, hn, e⟩ := zi_ex x
  refine ⟨n % 8, Nat.mod_lt _ (by decide), ?_⟩
  rw [e, zi_and, show n &&& 7 = n % 8 from Nat.and_two_pow_sub_one_eq_mod n 3]
theorem zlaw_c {L i : Nat} (hL : L ≤ 256) (hi : i < 2147483648) : ((nI L - nI 4) < nI i ↔ L < i + 4) := by
  by_cases q : 4 ≤ L
  · rw [zi_sub q, zi_lt (by omega) hi]
    omega
  · have e : ∀ L, L < 4 → (nI L - nI 4).toInt = (L : Int) - 4 := by decide
    rw [Int32.lt_iff_toInt_lt, e L (by omega), zi_toInt hi]
    omega
section
variable {L : Nat} {xs : Nat → Int32}
/-- what stands between two calls -/
def zLI (K : Nat) (h : zH) (m : zMm) : Prop := ∃ O R W A, zKI h m O R W A ∧ zRI m K A m
def zgoes (L : Nat) (xs : Nat → Int32) (K i : Nat) (h : zH) (m : zMm) (w5 w6 : Slot) : Prop := ∃ h' m' v5 v6, v5 ≠ Slot.second ∧ v6 ≠ Slot.second ∧ zEv (zPr L xs) 36 160 23 [.val (.ref 15), .val (.ref 100), .val (.ref 132), .val (.ref 154), .val (.int (nI i)), w5, w6] [] (zMH h m) = zEv (zPr L xs) 36 160 23 [.val (.ref 15), .val (.ref 100), .val (.ref 132), .val (.ref 154), .val (.int (nI (i + 4))), v5, v6] [] (zMH h' m') ∧ zLI (K + 1) h' m' ∧ zWc 70 400 h h'
theorem zvs {x : Int32} : Slot.val (.int x) ≠ Slot.second := fun h => by cases h
theorem zlaw_step {K i : Nat} {h : zH} {m : zMm} {w5 w6 : Slot} (hL : L ≤ 256) (hK : K ≤ 63) (hi : i + 4 ≤ L) (h5 : w5 ≠ .second) (h6 : w6 ≠ .second) (I : zLI K h m) : zgoes L xs K i h m w5 w6 := by
  obtain ⟨O, R, W, A, z, r⟩ := I
  have hx := z.1.1
  have C := zCI_of r
  have c1 : ¬ (nI L - nI 4) < nI i := fun q => by
    have := (zlaw_c hL (by omega)).mp q
    omega
  obtain ⟨j, hj, c2⟩ := zand7 (xs i)
  have jj : j = 0 ∨ j = 1 ∨ j = 2 ∨ j = 3 ∨ j = 4 ∨ j = 5 ∨ j = 6 ∨ j = 7 := by omega
  have i1 : i + 1 < L := by omega
  have i2 : i + 2 < L := by omega
  have i3 : i + 3 < L := by omega
  rcases jj with rfl | rfl | rfl | rfl | rfl | rfl | rfl | rfl
  · -- type
    obtain ⟨h1, m1, e1, z1, w1, f1, o1⟩ := s154 (L := L) (xs := xs) z C (xs (i + 1)) (xs (i + 2))
    have hx1 := z1.1.1
    obtain ⟨m2, e2, r2, t2⟩ := s145 (L := L) (xs := xs) hx1 (zRI_hi r f1) (xs (i + 1)) (xs (i + 2))
    have e3 := s87 (L := L) (xs := xs) (m := m2) hx1
    rw [t2] at e3
    have z2 := zKI_lo z1 r2.2.2.2.1.2
    have I2 : zLI (K + 1) h1 m2 := ⟨O, R, W, _, z2, zRI_hi (zRI_w r2 (Nat.le_succ _)) (fun _ _ _ _ => rfl)⟩
    have cl : (zaTy A (xs (i + 1)) (xs (i + 2))).1 < 2147483648 := by rcases zaTy_c A (xs (i + 1)) (xs (i + 2)) with q | q | q | q <;> omega
    by_cases c0 : (zaTy A (xs (i + 1)) (xs (i + 2))).1 = 0
    · have o := o1 c0
      cases b : (zaTy A (xs (i + 1)) (xs (i + 2))).2.1 with
      | true =>
        rw [b] at o e2
        exact ⟨h1, m2, _, _, zvs, zvs, p160j0_3 hx c1 c2 e1 hx1 e2 e3 rfl c0 rfl (by rw [o]; decide) h5 h6, I2, w1⟩
      | false =>
        rw [b] at o e2
        exact ⟨h1, m2, _, _, zvs, zvs, p160j0_5 hx c1 c2 e1 hx1 e2 e3 rfl c0 rfl (by rw [o]; decide) h5 h6, I2, w1⟩
    · exact ⟨h1, m2, _, _, zvs, zvs, p160j0_6 hx c1 c2 e1 hx1 e2 e3 rfl c0 h5 h6, I2, w1⟩
  · -- enter
    obtain ⟨h1, m1, O1, R1, W1, e1, z1, w1, f1, o1⟩ := s155 (L := L) (xs := xs) z C hK (xs (i + 1))
    have hx1 := z1.1.1
    obtain ⟨h2, m2, e2, g2, r2, t2⟩ := s146 (L := L) (xs := xs) hx1 hK (zRI_hi r f1) (xs (i + 1))
    have hx2 := zhL_fx hx1 g2
    have e3 := s87 (L := L) (xs := xs) (m := m2) hx2
    rw [t2] at e3
    have z2 := zKI_hL (zKI_lo z1 r2.2.2.2.1.2) g2
    have I2 : zLI (K + 1) h2 m2 := ⟨O1, R1, W1, _, z2, zRI_hi r2 (fun _ _ _ _ => rfl)⟩
    have w2 : zWc 70 400 h h2 := by
      obtain ⟨g3, g4, g5⟩ := zhL_c g2
      unfold zWc
      rw [g3, g4, g5]
      exact w1
    obtain ⟨cc, vl⟩ := zcE_c A (xs (i + 1))
    have cl : (zcE A (xs (i + 1))).1 < 2147483648 := by rcases cc with q | q | q | q <;> omega
    by_cases c0 : (zcE A (xs (i + 1))).1 = 0
    · have o := (zhL_154 g2).trans (o1 c0)
      exact ⟨h2, m2, _, _, zvs, zvs, p160j1_3 hx c1 c2 e1 hx1 e2 hx2 e3 rfl c0 (zl_eq_v o) h5 h6, I2, w2⟩
    · exact ⟨h2, m2, _, _, zvs, zvs, p160j1_4 hx c1 c2 e1 hx1 e2 hx2 e3 rfl c0 h5 h6, I2, w2⟩
  · -- connect
    obtain ⟨h1, m1, e1, z1, w1, f1⟩ := s156 (L := L) (xs := xs) z C (xs (i + 1))
    have hx1 := z1.1.1
    obtain ⟨m2, e2, r2, t2⟩ := s147 (L := L) (xs := xs) hx1 (zRI_hi r f1) (xs (i + 1))
    have e3 := s87 (L := L) (xs := xs) (m := m2) hx1
    rw [t2] at e3
    have z2 := zKI_lo z1 r2.2.2.2.1.2
    exact ⟨h1, m2, _, _, zvs, h6, p160j2_2 hx c1 c2 e1 hx1 e2 e3 rfl h5 h6, ⟨O, R, W, _, z2, zRI_hi (zRI_w r2 (Nat.le_succ _)) (fun _ _ _ _ => rfl)⟩, w1⟩
  · -- replied
    have vl : (zcR A (xs (i + 1))).2 < 2147483648 := by
      unfold zcR
      rcases zsn_c (xs (i + 1)) with ⟨e, -⟩ | ⟨s, hs, -, e⟩
      · rw [e]; exact (by decide : 0 < 2147483648)
      · rw [e]
        have := (C.2 s hs).1
        exact Nat.lt_of_le_of_lt this (by decide)
    obtain ⟨h1, e1, z1, w1, o1⟩ := s157 (L := L) (xs := xs) z (xs (i + 1)) vl
    have hx1 := z1.1.1
    obtain ⟨m2, e2, r2, t2⟩ := s148 (L := L) (xs := xs) hx1 r (xs (i + 1))
    have e3 := s87 (L := L) (xs := xs) (m := m2) hx1
    rw [t2] at e3
    have z2 := zKI_lo z1 r2.2.2.2.1.2
    have I2 : zLI (K + 1) h1 m2 := ⟨O, R, W, _, z2, zRI_hi (zRI_w r2 (Nat.le_succ _)) (fun _ _ _ _ => rfl)⟩
    have cl : (zcR A (xs (i + 1))).1 < 2147483648 := by rcases zcR_c A (xs (i + 1)) with q | q <;> omega
    by_cases c0 : (zcR A (xs (i + 1))).1 = 0
    · exact ⟨h1, m2, _, _, zvs, zvs, p160j3_3 hx c1 c2 e1 hx1 e2 e3 rfl c0 (zl_eq_v (o1 c0)) h5 h6, I2, w1⟩
    · exact ⟨h1, m2, _, _, zvs, zvs, p160j3_4 hx c1 c2 e1 hx1 e2 e3 rfl c0 h5 h6, I2, w1⟩
  · -- reply
    have vl : (zcY A (xs (i + 1)) (xs (i + 2))).2 < 2147483648 := by
      unfold zcY
      rcases zsn_c (xs (i + 1)) with ⟨e, -⟩ | ⟨s, hs, -, e⟩
      · rw [e]; exact (by decide : 0 < 2147483648)
      · rw [e]
        dsimp only
        cases zix (xs (i + 2)) (zaT A s).length with
        | none => exact (by decide : 0 < 2147483648)
        | some k =>
          show (zaT A s)[k]?.getD 0 < 2147483648
          cases e : (zaT A s)[k]? with
          | none => exact (by decide : 0 < 2147483648)
          | some v => exact Nat.lt_trans ((C.2 s hs).2.2.2.2 v (List.mem_of_getElem? e)) (by decide)
    obtain ⟨h1, e1, z1, w1, o1⟩ := s158 (L := L) (xs := xs) z C (xs (i + 1)) (xs (i + 2)) vl
    have hx1 := z1.1.1
    obtain ⟨m2, e2, r2, t2⟩ := s149 (L := L) (xs := xs) hx1 r (xs (i + 1)) (xs (i + 2))
    have e3 := s87 (L := L) (xs := xs) (m := m2) hx1
    rw [t2] at e3
    have z2 := zKI_lo z1 r2.2.2.2.1.2
    have I2 : zLI (K + 1) h1 m2 := ⟨O, R, W, _, z2, zRI_hi (zRI_w r2 (Nat.le_succ _)) (fun _ _ _ _ => rfl)⟩
    have cl : (zcY A (xs (i + 1)) (xs (i + 2))).1 < 2147483648 := by rcases zcY_c A (xs (i + 1)) (xs (i + 2)) with q | q <;> omega
    by_cases c0 : (zcY A (xs (i + 1)) (xs (i + 2))).1 = 0
    · exact ⟨h1, m2, _, _, zvs, zvs, p160j4_3 hx c1 c2 e1 hx1 e2 e3 rfl c0 (zl_eq_v (o1 c0)) h5 h6, I2, w1⟩
    · exact ⟨h1, m2, _, _, zvs, zvs, p160j4_4 hx c1 c2 e1 hx1 e2 e3 rfl c0 h5 h6, I2, w1⟩
  · -- view
    have e1 := s76 (L := L) (xs := xs) z (xs (i + 1))
    obtain ⟨m2, e2, r2⟩ := s150 (L := L) (xs := xs) hx r (xs (i + 1))
    have z2 := zKI_lo z r2.2.2.2.1.2
    exact ⟨h, m2, _, _, h5, h6, p160j5_2 hx c1 c2 e1 e2 rfl h5, ⟨O, R, W, _, z2, zRI_hi (zRI_w r2 (Nat.le_succ _)) (fun _ _ _ _ => rfl)⟩, Nat.le_refl _, Nat.le_add_right _ _, Nat.le_add_right _ _⟩
  · -- messages
    have e1 := s77 (L := L) (xs := xs) z (xs (i + 1))
    obtain ⟨m2, e2, r2⟩ := s152 (L := L) (xs := xs) hx r (xs (i + 1))
    have z2 := zKI_lo z r2.2.2.2.1.2
    exact ⟨h, m2, _, _, h5, h6, p160j6_2 hx c1 c2 e1 e2 rfl h5, ⟨O, R, W, _, z2, zRI_hi (zRI_w r2 (Nat.le_succ _)) (fun _ _ _ _ => rfl)⟩, Nat.le_refl _, Nat.le_add_right _ _, Nat.le_add_right _ _⟩
  · -- message
    have vl : (zcG A (xs (i + 1)) (xs (i + 2)) (xs (i + 3))).2 < 2147483648 := by
      unfold zcG
      rcases zbn_c (xs (i + 1)) with ⟨e, -⟩ | ⟨b, hb, -, e⟩
      · rw [e]; exact (by decide : 0 < 2147483648)
      · rw [e]
        dsimp only
        split
        · exact (by decide : 0 < 2147483648)
        · cases zix (xs (i + 2)) (zaM A b).length with
          | none => exact (by decide : 0 < 2147483648)
          | some k =>
            dsimp only
            cases e : (zaM A b)[k]? with
            | none => exact (by decide : 0 < 2147483648)
            | some g =>
              have gm : g ∈ (A.1 b).2.2.2 := List.mem_of_getElem? e
              obtain ⟨-, i2, -, i4, -, i6⟩ := C.1.1 b hb
              have a1 := i2 g gm
              have a2 := i6 g gm
              dsimp only
              split
              · show g.1 < 2147483648
                omega
              · split
                · show g.2.1 < 2147483648
                  omega
                · split
                  · show g.2.2.length < 2147483648
                    omega
                  · exact (by decide : 0 < 2147483648)
    obtain ⟨h1, e1, z1, w1, o1⟩ := s159 (L := L) (xs := xs) z (xs (i + 1)) (xs (i + 2)) (xs (i + 3)) vl
    have hx1 := z1.1.1
    obtain ⟨m2, e2, r2, t2⟩ := s153 (L := L) (xs := xs) hx1 r (xs (i + 1)) (xs (i + 2)) (xs (i + 3))
    have e3 := s87 (L := L) (xs := xs) (m := m2) hx1
    rw [t2] at e3
    have z2 := zKI_lo z1 r2.2.2.2.1.2
    have I2 : zLI (K + 1) h1 m2 := ⟨O, R, W, _, z2, zRI_hi (zRI_w r2 (Nat.le_succ _)) (fun _ _ _ _ => rfl)⟩
    have cl : (zcG A (xs (i + 1)) (xs (i + 2)) (xs (i + 3))).1 < 2147483648 := by rcases zcG_c A (xs (i + 1)) (xs (i + 2)) (xs (i + 3)) with q | q <;> omega
    by_cases c0 : (zcG A (xs (i + 1)) (xs (i + 2)) (xs (i + 3))).1 = 0
    · exact ⟨h1, m2, _, _, zvs, zvs, p160j7_3 hx c1 c2 e1 hx1 e2 e3 rfl c0 (zl_eq_v (o1 c0)) h5 h6, I2, w1⟩
    · exact ⟨h1, m2, _, _, zvs, zvs, p160j7_4 hx c1 c2 e1 hx1 e2 e3 rfl c0 h5 h6, I2, w1⟩
theorem zlaw_loop (hL : L ≤ 256) : ∀ (f K : Nat) (h : zH) (m : zMm) (w5 w6 : Slot), f + K = 65 → w5 ≠ .second → w6 ≠ .second → 4 * K ≤ 256 → zLI K h m → ∃ H, zEv (zPr L xs) 36 160 23 [.val (.ref 15), .val (.ref 100), .val (.ref 132), .val (.ref 154), .val (.int (nI (4 * K))), w5, w6] [] (zMH h m) = some (.inl (some (.int (nI 1))), H) ∧ zC H ≤ zC h + 70 * f ∧ zS H ≤ zS h + 400 * f := by
  intro f
  induction f with
  | zero => intro K h m w5 w6 hf h5 h6 hK; omega
  | succ f ih =>
    intro K h m w5 w6 hf h5 h6 hK I
    by_cases c : 4 * K + 4 ≤ L
    · obtain ⟨h', m', v5, v6, g5, g6, st, I', w1, w2, w3⟩ := zlaw_step (xs := xs) (w5 := w5) (w6 := w6) hL (by omega) c h5 h6 I
      obtain ⟨H, e, a1, a2⟩ := ih (K + 1) h' m' v5 v6 (by omega) g5 g6 (by omega) I'
      exact ⟨H, st.trans e, by omega, by omega⟩
    · have hx : zFx h := by
        obtain ⟨O, R, W, A, z, -⟩ := I
        exact z.1.1
      exact ⟨zMH h m, p160e hx ((zlaw_c hL (by omega)).mpr (by omega)), by show zC h ≤ _; omega, by show zS h ≤ _; omega⟩
end
