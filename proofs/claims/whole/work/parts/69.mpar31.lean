section
variable {L : Nat} {xs : Nat → Int32} {h : zH} {c : Nat → Nat}
theorem zix_c (i : Int32) {n : Nat} (hn : n < 2147483648) : (zix i n = none ∧ (i < 0 ∨ (¬ i < 0 ∧ nI n ≤ i))) ∨ ∃ k, k < n ∧ i = nI k ∧ zix i n = some k := by
  unfold zix
  by_cases q : i < 0
  · rw [if_pos q]; exact Or.inl ⟨rfl, Or.inl q⟩
  · rw [if_neg q]
    obtain ⟨k, hk, e1, e2⟩ := zi_pos i q
    rw [e2]
    by_cases r : k < n
    · rw [if_pos r]; exact Or.inr ⟨k, r, e1, rfl⟩
    · rw [if_neg r]
      exact Or.inl ⟨rfl, Or.inr ⟨q, by rw [e1, zi_le hn hk]; omega⟩⟩
theorem s147 (hx : zFx h) {B0 m : zMm} {A : zAS} {K : Nat} (hI : zRI B0 K A m) (p : Int32) : ∃ m', zCl (zPr L xs) 147 [.ref 132, .int p] (zMH h m) = some (.inl none, zMH h m') ∧ zRI B0 K (zcC A p).2 m' ∧ m' 500 132 0 = (zcC A p).1 := by
  have e88 := s88 (L := L) (xs := xs) hx (m := m) p
  rw [en_147]
  unfold zcC
  rcases zsn_c p with ⟨e, -⟩ | ⟨s, s3, ep, e⟩
  · rw [e] at e88 ⊢
    exact ⟨_, r147_0_1 hx (y1 := false) e88 rfl, zRI_th' hI, u3_eq _ _ _ _ _⟩
  rw [ep] at e88 ⊢
  rw [ep] at e
  rw [e] at e88 ⊢
  dsimp only
  have S := zRb_s hI.2.1 s3
  have cb : m 0 141 s < 2147483648 := by have := (hI.1.2.2.2.1 s s3).1; omega
  by_cases c1 : m 0 141 s = 0
  · have hC : zaC A s = false := by rw [← S.1, c1]; rfl
    rw [if_neg (by rw [hC]; exact Bool.noConfusion)]
    have st := p147_0_3 (L := L) (xs := xs) hx (y1 := true) e88 rfl c1 s3
    obtain ⟨m', hm'⟩ : ∃ m', m' = u3 (u3 (u3 (u3 (u3 m 500 132 0 0) 0 141 s 1) 0 142 s 4294967295) 0 144 s 0) 0 148 s 0 := ⟨_, rfl⟩
    rw [← hm'] at st
    have F : zfr [(500, 132), (0, 141), (0, 142), (0, 144), (0, 148)] m m' := by rw [hm']; exact zfr_u (zfr_u (zfr_u (zfr_u (zfr_u (zfr_rf _ _) (by decide)) (by decide)) (by decide)) (by decide)) (by decide)
    have t1 : ∀ j, m' 0 141 j = if j = s then 1 else m 0 141 j := fun j => by rw [hm', u3_a (by decide), u3_a (by decide), u3_a (by decide), u3_at, u3_g (by decide)]
    have t2 : ∀ j, m' 0 142 j = if j = s then 4294967295 else m 0 142 j := fun j => by rw [hm', u3_a (by decide), u3_a (by decide), u3_at, u3_a (by decide), u3_g (by decide)]
    have t3 : ∀ j, m' 0 144 j = if j = s then 0 else m 0 144 j := fun j => by rw [hm', u3_a (by decide), u3_at, u3_a (by decide), u3_a (by decide), u3_g (by decide)]
    have t4 : ∀ j, m' 0 148 j = if j = s then 0 else m 0 148 j := fun j => by rw [hm', u3_at, u3_a (by decide), u3_a (by decide), u3_a (by decide), u3_g (by decide)]
    have t5 : m' 500 132 0 = 0 := by rw [hm', u3_g (by decide), u3_g (by decide), u3_g (by decide), u3_g (by decide)]; exact u3_eq _ _ _ _ _
    obtain ⟨ok, hA, hi, h3s, hL⟩ := hI
    have vw : ∀ s', s' ≠ s → zvw m' s' = zvw m s' := fun s' q => zvw_e (by rw [t3, if_neg q]) fun i _ => ⟨F _ _ _ (by decide), F _ _ _ (by decide)⟩
    have rp : ∀ s', zrp m' s' = zrp m s' := fun s' => zrp_o (F _ _ _ (by decide)) fun i _ => F _ _ _ (by decide)
    have ln : ∀ s', s' ≠ s → zln m' s' = zln m s' := fun s' q => by
      unfold zln
      rw [t4, if_neg q]
      exact List.map_congr_left fun i _ => F _ _ _ (by decide)
    refine ⟨m', st, ⟨⟨fun i hi => ?_, fun k hk => ?_, fun b hb4 => ?_, fun s' hs => ?_, ?_⟩, zRb_S hA (fun s' hs' q => zss_q (by rw [t1, if_neg q]) (by rw [t2, if_neg q]) (F _ _ _ (by decide)) (vw s' q) (rp s') (ln s' q)) (fun _ => ?_) (fun b _ => zbx_fr F b) (F _ _ _ (by decide)), ⟨hi.1, fun s' hs' => ?_, hi.2.2⟩, ?_, fun s' hs' => ?_⟩, t5⟩
    · have := ok.1 i hi
      rw [show m' 0 137 i = m 0 137 i from F _ _ _ (by decide), show m' 0 138 i = m 0 138 i from F _ _ _ (by decide), show m' 0 139 i = m 0 139 i from F _ _ _ (by decide)]
      exact ⟨this.1, this.2.1, this.2.2.1, fun k hk => by rw [show m' 0 140 (6 * i + k) = m 0 140 (6 * i + k) from F _ _ _ (by decide)]; exact this.2.2.2 k hk⟩
    · rw [show m' 0 145 k = m 0 145 k from F _ _ _ (by decide), show m' 0 146 k = m 0 146 k from F _ _ _ (by decide)]
      exact ok.2.1 k hk
    · rw [show m' 0 133 b = m 0 133 b from F _ _ _ (by decide), show m' 0 136 b = m 0 136 b from F _ _ _ (by decide), show m' 0 135 b = m 0 135 b from F _ _ _ (by decide), show m' 0 134 b = m 0 134 b from F _ _ _ (by decide)]
      exact ok.2.2.1 b hb4
    · have o := ok.2.2.2.1 s' hs
      rw [t1, t2, t3, show m' 0 143 s' = m 0 143 s' from F _ _ _ (by decide)]
      by_cases q : s' = s
      · rw [if_pos q, if_pos q, if_pos q]; exact ⟨by decide, o.2.1, by decide, Or.inr rfl⟩
      · rw [if_neg q, if_neg q, if_neg q]; exact o
    · rw [show m' 509 132 0 = m 509 132 0 from F _ _ _ (by decide)]; exact ok.2.2.2.2
    · have e2 : zsq m' s = none := by unfold zsq; rw [t2, if_pos rfl]; rfl
      have e3 : zvw m' s = [] := List.eq_nil_of_length_eq_zero (by rw [zvw_len, t3, if_pos rfl])
      have e4 : zln m' s = [] := List.eq_nil_of_length_eq_zero (by rw [zln_len, t4, if_pos rfl])
      unfold zss
      rw [t1, if_pos rfl, e2, e3, rp, e4, S.2.2.2.1]
      rfl
    · have o := hi.2.1 s' hs'
      rw [zaV_S, zaQ_S]
      by_cases q : s' = s
      · rw [if_pos q, if_pos q]
        exact ⟨List.Pairwise.nil, ⟨Nat.zero_le _, by intro v hm; cases hm⟩, rfl⟩
      · rw [if_neg q, if_neg q]
        exact o
    · exact ⟨by rw [show m' 520 132 0 = m 520 132 0 from F _ _ _ (by decide)]; exact h3s.1, zLw_fr h3s.2 F⟩
    · have o := hL s' hs'
      rw [zaT_S, zaL_S, zaC_S, zaQ_S]
      by_cases q : s' = s
      · rw [if_pos q, if_pos q, if_pos q, if_pos q]
        rw [q] at o
        exact ⟨o.1, Nat.zero_le _, (by intro x hm; cases hm), fun _ => rfl, o.2.2.2.2⟩
      · rw [if_neg q, if_neg q, if_neg q, if_neg q]
        exact o
  · have hC : zaC A s = true := by rw [← S.1]; exact decide_eq_true c1
    rw [if_pos hC]
    exact ⟨_, p147_0_2 hx (y1 := true) e88 rfl c1, zRI_th' hI, u3_eq _ _ _ _ _⟩
theorem s148 (hx : zFx h) {B0 m : zMm} {A : zAS} {K : Nat} (hI : zRI B0 K A m) (p : Int32) : ∃ m', zCl (zPr L xs) 148 [.ref 132, .int p] (zMH h m) = some (.inl (some (.int (nI (zcR A p).2))), zMH h m') ∧ zRI B0 K A m' ∧ m' 500 132 0 = (zcR A p).1 := by
  have e88 := s88 (L := L) (xs := xs) hx (m := m) p
  rw [en_148]
  unfold zcR
  rcases zsn_c p with ⟨e, -⟩ | ⟨s, s3, ep, e⟩
  · rw [e] at e88 ⊢
    exact ⟨_, r148_0_1 hx (y1 := false) e88 rfl, zRI_th' hI, u3_eq _ _ _ _ _⟩
  rw [ep] at e88 ⊢
  rw [ep] at e
  rw [e] at e88 ⊢
  dsimp only
  have S := zRb_s hI.2.1 s3
  have : (zaT A s).length = m 0 150 s := by rw [← S.2.2.2.1]; exact zrp_len
  rw [this]
  exact ⟨_, p148_0_1 hx (y1 := true) e88 rfl s3, zRI_th' hI, u3_eq _ _ _ _ _⟩
theorem s149 (hx : zFx h) {B0 m : zMm} {A : zAS} {K : Nat} (hI : zRI B0 K A m) (p i : Int32) : ∃ m', zCl (zPr L xs) 149 [.ref 132, .int p, .int i] (zMH h m) = some (.inl (some (.int (nI (zcY A p i).2))), zMH h m') ∧ zRI B0 K A m' ∧ m' 500 132 0 = (zcY A p i).1 := by
  have e88 := s88 (L := L) (xs := xs) hx (m := m) p
  rw [en_149]
  unfold zcY
  rcases zsn_c p with ⟨e, -⟩ | ⟨s, s3, ep, e⟩
  · rw [e] at e88 ⊢
    exact ⟨_, r149_0_2 hx (y1 := false) e88 rfl, zRI_th' hI, u3_eq _ _ _ _ _⟩
  rw [ep] at e88 ⊢
  rw [ep] at e
  rw [e] at e88 ⊢
  dsimp only
  have S := zRb_s hI.2.1 s3
  have O := hI.2.2.2.2 s s3
  have ll : (zaT A s).length = m 0 150 s := by rw [← S.2.2.2.1]; exact zrp_len
  rcases zix_c i (n := (zaT A s).length) (by omega) with ⟨e1, q | ⟨q1, q2⟩⟩ | ⟨k, kl, ei, e1⟩
  · rw [e1]
    exact ⟨_, t149_0_2 hx (y1 := true) e88 rfl q, zRI_th' hI, u3_eq _ _ _ _ _⟩
  · rw [e1]
    refine ⟨_, t149_0_1 hx (y1 := true) e88 rfl q1 ?_ s3, zRI_th' hI, u3_eq _ _ _ _ _⟩
    rw [← ll]
    obtain ⟨k, hk, g1, -⟩ := zi_pos i q1
    rw [g1] at q2 ⊢
    rw [zi_le (by omega) hk] at q2
    rw [zi_lt hk (by omega)]
    omega
  · rw [e1, ei]
    dsimp only
    have g : (zaT A s)[k]? = some (m 0 149 (2048 * s + k)) := by
      rw [← S.2.2.2.1]
      unfold zrp
      rw [List.getElem?_map, List.getElem?_range (by omega)]
      rfl
    have lt : m 0 149 (2048 * s + k) < 127 := O.2.2.2.2 _ (List.mem_of_getElem? g)
    rw [g]
    have e2 : (((nI (m 0 149 (2048 * s + k))).toUInt32 % 65536).toInt32) = nI (m 0 149 (2048 * s + k)) := by
      have : ∀ v, v < 127 → (((nI v).toUInt32 % 65536).toInt32) = nI v := by decide
      exact this _ lt
    have st := p149_0_2 (L := L) (xs := xs) (p := s) (q := k) hx (y1 := true) e88 rfl (by omega) (by rw [e2]; exact zi_char (by omega)) (by omega) s3 (by omega) (by omega)
    rw [e2] at st
    exact ⟨_, st, zRI_th' hI, u3_eq _ _ _ _ _⟩
theorem s150 (hx : zFx h) {B0 m : zMm} {A : zAS} {K : Nat} (hI : zRI B0 K A m) (p : Int32) : ∃ m', zCl (zPr L xs) 150 [.ref 132, .int p] (zMH h m) = some (.inl (some (.int (zcV A p))), zMH h m') ∧ zRI B0 K A m' := by
  have e88 := s88 (L := L) (xs := xs) hx (m := u3 m 500 132 0 0) p
  rw [en_150]
  unfold zcV
  rcases zsn_c p with ⟨e, -⟩ | ⟨s, s3, ep, e⟩
  · rw [e] at e88 ⊢
    exact ⟨_, r150_0_1 hx (y1 := false) e88 rfl, zRI_th' hI⟩
  rw [ep] at e88 ⊢
  rw [ep] at e
  rw [e] at e88 ⊢
  dsimp only
  have S := zRb_s hI.2.1 s3
  rcases zsq_of hI.1 hI.2.1 s3 with ⟨q, qq⟩ | ⟨q, qq⟩
  · rw [qq, if_pos (show Option.isSome (some (m 0 142 s, decide (m 0 143 s ≠ 0))) = true from rfl)]
    have : (zaV A s).length = m 0 144 s := by rw [← S.2.2.1]; exact zvw_len
    rw [this]
    exact ⟨_, p150_0_1 hx (y1 := true) e88 rfl (zi_nneg (by omega)) s3, zRI_th' hI⟩
  · rw [qq]
    exact ⟨_, p150_0_2 hx (y1 := true) e88 rfl (by rw [q]; exact zi_neg (by decide) (by decide)) s3, zRI_th' hI⟩
theorem s151 (hx : zFx h) {m : zMm} {A : zAS} (ok : zMOk 1000 m) (hA : zRb m A) (p : Int32) : zCl (zPr L xs) 151 [.ref 132, .int p] (zMH h m) = some (.inl (some (.int (nI (match zbn p with
    | none => false
    | some b => decide ((A.1 b).1 ≠ 0)).toNat))), zMH h m) := by
  rw [en_151]
  rcases zbn_c p with ⟨e, q | ⟨q1, q2⟩⟩ | ⟨b, b4, ep, e⟩
  · rw [e]; exact r151_0_2 hx q
  · rw [e]; exact r151_0_1 hx q1 q2
  · rw [ep] at e ⊢
    rw [e]
    dsimp only
    have X := zRb_x hA b4
    have tb := (ok.2.2.1 b b4).1
    rw [← X.1]
    by_cases q : m 0 133 b = 0
    · rw [decide_eq_false (fun g => g q)]; exact p151_0_2 hx b4 q
    · rw [decide_eq_true q]; exact p151_0_1 hx b4 q
theorem s152 (hx : zFx h) {B0 m : zMm} {A : zAS} {K : Nat} (hI : zRI B0 K A m) (p : Int32) : ∃ m', zCl (zPr L xs) 152 [.ref 132, .int p] (zMH h m) = some (.inl (some (.int (zcM A p))), zMH h m') ∧ zRI B0 K A m' := by
  have hI' : zRI B0 K A (u3 m 500 132 0 0) := zRI_th' hI
  have e151 := s151 (L := L) (xs := xs) hx hI'.1 hI'.2.1 p
  rw [en_152]
  unfold zcM
  rcases zbn_c p with ⟨e, -⟩ | ⟨b, b4, ep, e⟩
  · rw [e] at e151 ⊢
    exact ⟨_, r152_0_1 hx (y1 := false) e151 rfl, hI'⟩
  · rw [ep] at e e151 ⊢
    rw [e] at e151 ⊢
    dsimp only at e151 ⊢
    have X := zRb_x hI.2.1 b4
    by_cases q : (A.1 b).1 = 0
    · rw [if_pos q]
      rw [decide_eq_false (fun g => g q)] at e151
      exact ⟨_, p152_0_2 hx (y1 := false) e151 rfl, hI'⟩
    · rw [if_neg q, ← X.2.2.2]
      rw [decide_eq_true q] at e151
      exact ⟨_, p152_0_1 hx (y1 := true) e151 rfl b4, hI'⟩
theorem s153 (hx : zFx h) {B0 m : zMm} {A : zAS} {K : Nat} (hI : zRI B0 K A m) (p i w : Int32) : ∃ m', zCl (zPr L xs) 153 [.ref 132, .int p, .int i, .int w] (zMH h m) = some (.inl (some (.int (nI (zcG A p i w).2))), zMH h m') ∧ zRI B0 K A m' ∧ m' 500 132 0 = (zcG A p i w).1 := by
  have e151 := s151 (L := L) (xs := xs) hx hI.1 hI.2.1 p
  rw [en_153]
  unfold zcG
  rcases zbn_c p with ⟨e, -⟩ | ⟨b, b4, ep, e⟩
  · rw [e] at e151 ⊢
    exact ⟨_, (r153_0_2 hx (y1 := false) e151 rfl).trans ((r153_32_1 hx).trans (r153_37_1 (z0 := true) hx (by decide) (by decide))), zRI_th' hI, u3_eq _ _ _ _ _⟩
  rw [ep] at e e151 ⊢
  rw [e] at e151 ⊢
  dsimp only at e151 ⊢
  have X := zRb_x hI.2.1 b4
  have O := hI.1.2.2.1 b b4
  by_cases q : (A.1 b).1 = 0
  · rw [if_pos q]
    rw [decide_eq_false (fun g => g q)] at e151
    rw [← ep] at e151 ⊢
    exact ⟨_, (r153_0_2 hx (y1 := false) e151 rfl).trans ((r153_32_1 hx).trans (r153_37_1 (z0 := true) hx (by decide) (by decide))), zRI_th' hI, u3_eq _ _ _ _ _⟩
  rw [if_neg q]
  rw [decide_eq_true q] at e151
  rcases zix_c i (n := (zaM A b).length) (by omega) with ⟨e1, r | ⟨q1, q2⟩⟩ | ⟨k, kl, ei, e1⟩
  · rw [e1]
    exact ⟨_, (t153_0_5 hx (y1 := true) e151 rfl r).trans ((t153_32_1 hx).trans (t153_37_1 (z0 := true) hx (by decide) (by decide))), zRI_th' hI, u3_eq _ _ _ _ _⟩
  · rw [e1]
    exact ⟨_, (t153_0_4 hx (y1 := true) e151 rfl q1 (by rw [X.2.2.2]; exact q2) b4).trans ((t153_32_1 hx).trans (t153_37_1 (z0 := true) hx (by decide) (by decide))), zRI_th' hI, u3_eq _ _ _ _ _⟩
  rw [e1, ei]
  dsimp only
  have kc : k < m 0 136 b := by omega
  have g : (zaM A b)[k]? = some (zmg m (10 * b + k)) := by
    rw [← zRb_M hI.2.1 b4]
    unfold zbm
    rw [List.getElem?_map, List.getElem?_range kc]
    rfl
  rw [g]
  dsimp only
  have tl : (ztx m (10 * b + k)).length = m 0 139 (10 * b + k) := by unfold ztx; rw [List.length_map, List.length_range]
  by_cases w0 : w = nI 0
  · rw [if_pos w0, w0]
    exact ⟨_, (u153_0_2 hx (y1 := true) e151 rfl kc (by decide) (by decide)).trans ((u153_37_2 (z0 := false) hx rfl rfl zsecu).trans (p153_93_1 hx)), zRI_th' hI, u3_eq _ _ _ _ _⟩
  rw [if_neg w0]
  by_cases w1 : w = nI 1
  · rw [if_pos w1, w1]
    exact ⟨_, (u153_0_2 hx (y1 := true) e151 rfl kc (by decide) (by decide)).trans ((u153_37_3 (z0 := false) hx rfl (by decide) rfl zsecu).trans (p153_93_1 hx)), zRI_th' hI, u3_eq _ _ _ _ _⟩
  rw [if_neg w1]
  by_cases w2 : w = nI 2
  · rw [if_pos w2, w2]
    refine ⟨_, (u153_0_2 hx (y1 := true) e151 rfl kc (by decide) (by decide)).trans ((u153_37_4 (z0 := false) hx rfl (by decide) (by decide) zsecu).trans (p153_93_1 hx)) |>.trans ?_, zRI_th' hI, u3_eq _ _ _ _ _⟩
    show _ = some (Sum.inl (some (Value.int (nI (ztx m (10 * b + k)).length))), _)
    rw [tl]
    rfl
  rw [if_neg w2]
  by_cases wn : w < 0
  · exact ⟨_, (u153_0_3 hx (y1 := true) e151 rfl kc wn).trans ((u153_32_1 hx).trans (u153_37_1 (z0 := true) hx (by decide) (by decide))), zRI_th' hI, u3_eq _ _ _ _ _⟩
  · refine ⟨_, (u153_0_1 hx (y1 := true) e151 rfl kc wn ?_).trans ((u153_32_1 hx).trans (u153_37_1 (z0 := true) hx (by decide) (by decide))), zRI_th' hI, u3_eq _ _ _ _ _⟩
    obtain ⟨n, hn, g1, -⟩ := zi_pos w wn
    rw [g1] at w0 w1 w2 ⊢
    rw [zi_inj hn (by decide)] at w0 w1 w2
    rw [zi_le hn (by decide)]
    omega
end
