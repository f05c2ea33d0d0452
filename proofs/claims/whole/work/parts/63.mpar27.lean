theorem u3_at (m : zMm) (g a i x j : Nat) : u3 m g a i x g a j = if j = i then x else m g a j := by
  by_cases q : j = i
  · rw [if_pos q, q]; exact u3_eq _ _ _ _ _
  · rw [if_neg q]; exact u3_i q
section
variable {L : Nat} {xs : Nat → Int32} {h : zH} {c : Nat → Nat}
theorem zsq_of {m : zMm} {A : zAS} {N s : Nat} (hok : zMOk N m) (hA : zRb m A) (hs : s < 3) : (m 0 142 s < 4 ∧ zaQ A s = some (m 0 142 s, decide (m 0 143 s ≠ 0))) ∨ (m 0 142 s = 4294967295 ∧ zaQ A s = none) := by
  have q := (zRb_s hA hs).2.1
  unfold zsq at q
  cases (hok.2.2.2.1 s hs).2.2.2 with
  | inl z => rw [if_pos z] at q; exact Or.inl ⟨z, q.symm⟩
  | inr z => rw [if_neg (by omega)] at q; exact Or.inr ⟨z, q.symm⟩
theorem s139 (hx : zFx h) {m : zMm} {A : zAS} (hl : zLC m c) (hok : zMOk 1000 m) (hA : zRb m A) (hb : m 526 132 0 < 4) (hc : m 509 132 0 < 1000) : ∃ m', zCl (zPr L xs) 139 [.ref 132] (zMH h m) = some (.inl none, zMH h m') ∧ zRb m' (zPcreate A (m 526 132 0)) ∧ zMOk 1000 m' ∧ zKeep m m' ∧ zRL m' = zRL m := by
  rw [en_139]
  have st := p139_0_1 (L := L) (xs := xs) hx hl hb
  obtain ⟨m', e⟩ : ∃ m', m' = u3 (u3 (u3 (u3 (u3 m 509 132 0 (m 509 132 0 + 1)) 0 133 (m 526 132 0) 1) 0 134 (m 526 132 0) (m 509 132 0 + 1)) 0 135 (m 526 132 0) 1) 0 136 (m 526 132 0) 0 := ⟨_, rfl⟩
  rw [← e] at st
  have F : zfr [(509, 132), (0, 133), (0, 134), (0, 135), (0, 136)] m m' := by rw [e]; exact zfr_u (zfr_u (zfr_u (zfr_u (zfr_u (zfr_rf _ _) (by decide)) (by decide)) (by decide)) (by decide)) (by decide)
  have t1 : ∀ b, m' 0 133 b = if b = m 526 132 0 then 1 else m 0 133 b := fun b => by rw [e, u3_a (by decide), u3_a (by decide), u3_a (by decide), u3_at]; rfl
  have t2 : ∀ b, m' 0 134 b = if b = m 526 132 0 then m 509 132 0 + 1 else m 0 134 b := fun b => by rw [e, u3_a (by decide), u3_a (by decide), u3_at]; rfl
  have t3 : ∀ b, m' 0 135 b = if b = m 526 132 0 then 1 else m 0 135 b := fun b => by rw [e, u3_a (by decide), u3_at]; rfl
  have t4 : ∀ b, m' 0 136 b = if b = m 526 132 0 then 0 else m 0 136 b := fun b => by rw [e, u3_at]; rfl
  have t5 : m' 509 132 0 = m 509 132 0 + 1 := by rw [e, u3_g (by decide), u3_g (by decide), u3_g (by decide), u3_g (by decide)]; exact u3_eq _ _ _ _ _
  have mg : ∀ j, zmg m' j = zmg m j := by
    intro j
    unfold zmg ztx
    rw [show m' 0 137 j = m 0 137 j from F _ _ _ (by decide), show m' 0 138 j = m 0 138 j from F _ _ _ (by decide), show m' 0 139 j = m 0 139 j from F _ _ _ (by decide)]
    have : ∀ q, m' 0 140 q = m 0 140 q := fun q => F _ _ _ (by decide)
    simp only [this]
  refine ⟨m', st, ⟨fun b hb4 => ?_, fun s hs => (zss_fr F s).trans (hA.2.1 s hs), ?_⟩, ⟨fun i hi => ?_, fun k hk => ?_, fun b hb4 => ?_, fun s hs => ?_, ?_⟩, zKeep_of F (fun s _ => F _ _ _ (by decide)), ?_⟩
  · unfold zbx zbm
    rw [t1, t2, t3, t4]
    by_cases q : b = m 526 132 0
    · rw [if_pos q, if_pos q, if_pos q, if_pos q, hA.2.2]
      show _ = zup A.1 (m 526 132 0) _ b
      rw [q, zup_eq]
      rfl
    · rw [if_neg q, if_neg q, if_neg q, if_neg q]
      show _ = zup A.1 (m 526 132 0) _ b
      rw [zup_ne q, ← hA.1 b hb4]
      simp only [mg]
      rfl
  · rw [t5, hA.2.2]; rfl
  · have := hok.1 i hi
    rw [show m' 0 137 i = m 0 137 i from F _ _ _ (by decide), show m' 0 138 i = m 0 138 i from F _ _ _ (by decide), show m' 0 139 i = m 0 139 i from F _ _ _ (by decide)]
    exact ⟨this.1, this.2.1, this.2.2.1, fun k hk => by rw [show m' 0 140 (6 * i + k) = m 0 140 (6 * i + k) from F _ _ _ (by decide)]; exact this.2.2.2 k hk⟩
  · rw [show m' 0 145 k = m 0 145 k from F _ _ _ (by decide), show m' 0 146 k = m 0 146 k from F _ _ _ (by decide)]
    exact hok.2.1 k hk
  · have o := hok.2.2.1 b hb4
    rw [t1, t2, t3, t4]
    by_cases q : b = m 526 132 0
    · rw [if_pos q, if_pos q, if_pos q, if_pos q]
      omega
    · rw [if_neg q, if_neg q, if_neg q, if_neg q]
      exact o
  · rw [show m' 0 141 s = m 0 141 s from F _ _ _ (by decide), show m' 0 142 s = m 0 142 s from F _ _ _ (by decide), show m' 0 143 s = m 0 143 s from F _ _ _ (by decide), show m' 0 144 s = m 0 144 s from F _ _ _ (by decide)]
    exact hok.2.2.2.1 s hs
  · rw [t5]; omega
  · exact (zrt_fr (F _ _ _ (by decide)) (fun q => F _ _ _ (by decide)) (fun q => F _ _ _ (by decide))).2
theorem s140 (hx : zFx h) {m : zMm} {A : zAS} {N : Nat} {cn : Bool} (hl : zLC m c) (hok : zMOk N m) (hB : ∀ b, b < 4 → zbx m b = A.1 b) (hS : ∀ s, s < 3 → s ≠ m 520 132 0 → zss m s = A.2.1 s) (hc : m 509 132 0 = A.2.2) (hq : decide (m 0 141 (m 520 132 0) ≠ 0) = cn) (hT : zrp m (m 520 132 0) = zaT A (m 520 132 0)) (hL : zln m (m 520 132 0) = zaL A (m 520 132 0)) : ∃ m', zCl (zPr L xs) 140 [.ref 132] (zMH h m) = some (.inl none, zMH h m') ∧ zRb m' (zPleave A (m 520 132 0) cn) ∧ zMOk N m' ∧ zKeep m m' ∧ zRL m' = zRL m := by
  have t3 := hl.1.1
  rw [en_140]
  have st := p140_0_1 (L := L) (xs := xs) hx hl t3
  obtain ⟨m', e⟩ : ∃ m', m' = u3 (u3 m 0 142 (m 520 132 0) 4294967295) 0 144 (m 520 132 0) 0 := ⟨_, rfl⟩
  rw [← e] at st
  have F : zfr [(0, 142), (0, 144)] m m' := by rw [e]; exact zfr_u (zfr_u (zfr_rf _ _) (by decide)) (by decide)
  have t1 : ∀ b, m' 0 142 b = if b = m 520 132 0 then 4294967295 else m 0 142 b := fun b => by rw [e, u3_a (by decide), u3_at]
  have t2 : ∀ b, m' 0 144 b = if b = m 520 132 0 then 0 else m 0 144 b := fun b => by rw [e, u3_at]; rfl
  have vw : ∀ s, s ≠ m 520 132 0 → zvw m' s = zvw m s := fun s hs => zvw_e (by rw [t2, if_neg hs]) fun i _ => ⟨F _ _ _ (by decide), F _ _ _ (by decide)⟩
  have rp : ∀ s, zrp m' s = zrp m s := fun s => zrp_o (F _ _ _ (by decide)) fun i _ => F _ _ _ (by decide)
  refine ⟨m', st, ⟨fun b hb => (zbx_fr F b).trans (hB b hb), fun s hs => ?_, (F _ _ _ (by decide)).trans hc⟩, ⟨fun i hi => ?_, fun k hk => ?_, fun b hb4 => ?_, fun s hs => ?_, ?_⟩, zKeep_of F (fun s _ => F _ _ _ (by decide)), ?_⟩
  · by_cases q : s = m 520 132 0
    · rw [q]
      show _ = zup A.2.1 (m 520 132 0) _ (m 520 132 0)
      rw [zup_eq]
      have e1 : m' 0 141 (m 520 132 0) = m 0 141 (m 520 132 0) := F _ _ _ (by decide)
      have e2 : zsq m' (m 520 132 0) = none := by unfold zsq; rw [t1, if_pos rfl]; rfl
      have e3 : zvw m' (m 520 132 0) = [] := List.eq_nil_of_length_eq_zero (by rw [zvw_len, t2, if_pos rfl])
      have e4 : zln m' (m 520 132 0) = zln m (m 520 132 0) := by
        unfold zln
        rw [show m' 0 148 (m 520 132 0) = m 0 148 (m 520 132 0) from F _ _ _ (by decide)]
        have : ∀ q, m' 0 147 q = m 0 147 q := fun q => F _ _ _ (by decide)
        simp only [this]
      unfold zss
      rw [e1, e2, e3, e4, rp, hq, hT, hL]
    · show _ = zup A.2.1 (m 520 132 0) _ s
      rw [zup_ne q, ← hS s hs q]
      exact zss_o (F _ _ _ (by decide)) (by rw [t1, if_neg q]) (F _ _ _ (by decide)) (vw s q) (rp s) (F _ _ _ (by decide)) (fun i => F _ _ _ (by decide))
  · have := hok.1 i hi
    rw [show m' 0 137 i = m 0 137 i from F _ _ _ (by decide), show m' 0 138 i = m 0 138 i from F _ _ _ (by decide), show m' 0 139 i = m 0 139 i from F _ _ _ (by decide)]
    exact ⟨this.1, this.2.1, this.2.2.1, fun k hk => by rw [show m' 0 140 (6 * i + k) = m 0 140 (6 * i + k) from F _ _ _ (by decide)]; exact this.2.2.2 k hk⟩
  · rw [show m' 0 145 k = m 0 145 k from F _ _ _ (by decide), show m' 0 146 k = m 0 146 k from F _ _ _ (by decide)]
    exact hok.2.1 k hk
  · rw [show m' 0 133 b = m 0 133 b from F _ _ _ (by decide), show m' 0 136 b = m 0 136 b from F _ _ _ (by decide), show m' 0 135 b = m 0 135 b from F _ _ _ (by decide), show m' 0 134 b = m 0 134 b from F _ _ _ (by decide)]
    exact hok.2.2.1 b hb4
  · have o := hok.2.2.2.1 s hs
    rw [show m' 0 141 s = m 0 141 s from F _ _ _ (by decide), t1, show m' 0 143 s = m 0 143 s from F _ _ _ (by decide), t2]
    by_cases q : s = m 520 132 0
    · rw [if_pos q, if_pos q]; exact ⟨o.1, o.2.1, by omega, Or.inr rfl⟩
    · rw [if_neg q, if_neg q]; exact o
  · rw [show m' 509 132 0 = m 509 132 0 from F _ _ _ (by decide)]; exact hok.2.2.2.2
  · exact (zrt_fr (F _ _ _ (by decide)) (fun q => F _ _ _ (by decide)) (fun q => F _ _ _ (by decide))).2
end
