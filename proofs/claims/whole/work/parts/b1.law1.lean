/-! ===== the law's own methods (printed by wip/whole/gen/glaw.py) ===== -/
section
variable {P : zP} {r y pc : Nat} {ls : List Slot} {st : List Value} {H h : zH} {m : zMm}
/-- a call that throws, caught here -/
theorem k_cvt2 {y' n nl u w k a t : Nat} {as rest : List Value} {E : String} {h2 : zH} (ho : P.1 y pc = o_cv y' n nl u w) (hg : st[n]? = some (.ref a)) (hb : (Nat.ble (st.length - (n + 1)) 4 && Nat.ble (lg_sl (st.take (n + 1)).reverse).length nl) = true) (ht : zT H a = u ∨ zT H a = w) (ha : (st.take (n + 1)).reverse = as) (hd : st.drop (n + 1) = rest) (hr : P.2.1 y' as = k) (hk : k < r) (hv : zCl P y' as H = some (.inr E, h2)) (hh : P.2.2.2 y pc E = some (some t)) : zEv P r y pc ls st H = zEv P r y t ls [.ref (zN h2)] (zOpq h2) := by
  refine zEv_cat (y' := y') (as := as) (pc' := pc + 3) (ls' := ls) (st' := rest) ho ?_ (by rw [hr]; exact hk) hv hh
  unfold o_cv
  rw [hb, hg]
  dsimp only
  rw [if_pos ht, ha, hd]
theorem k_last0 {x : Int64} (ho : P.1 y pc = o_last) (ht : zT H 154 = 21) (he : zE H 154 = 1) : zEv P r y pc ls (.long x :: .int 0 :: .ref 154 :: st) H = zEv P r y (pc + 1) ls st (zsL H 0 154 0 x) := by
  refine zEv_go ho ?_
  unfold o_last
  dsimp only
  rw [if_pos ⟨ht, by decide, by rw [he]; decide⟩]
  rfl
theorem k_lald0 (ho : P.1 y pc = o_lald) (hx : zFx h) : zEv P r y pc ls (.int (nI 0) :: .ref 154 :: st) (zMH h m) = zEv P r y (pc + 1) ls (.long (zL h 0 154 0) :: st) (zMH h m) := by
  refine zEv_go ho ?_
  unfold o_lald
  dsimp only
  rw [if_pos ⟨xT_154 hx, by decide, by rw [show zE (zMH h m) 154 = 1 from xE_154 hx]; decide⟩]
  rfl
theorem k_xlen {L : Nat} (ho : P.1 y pc = o_xlen L) (hx : zFx h) : zEv P r y pc ls (.ref 15 :: st) (zMH h m) = zEv P r y (pc + 1) ls (.int (nI L) :: st) (zMH h m) := zEv_go ho (if_pos ((hx.2.2.2 15 (by decide)).trans (by decide)))
theorem k_sald {L i : Nat} {xs : Nat → Int32} (ho : P.1 y pc = o_sald L xs) (hx : zFx h) (hi : i < L) (hb : i < 2147483648) : zEv P r y pc ls (.int (nI i) :: .ref 15 :: st) (zMH h m) = zEv P r y (pc + 1) ls (.int (xs i) :: st) (zMH h m) := by
  refine zEv_go ho ?_
  unfold o_sald
  dsimp only
  rw [zi_clamp hb, if_pos ⟨(hx.2.2.2 15 (by decide)).trans (by decide), zi_nneg hb, hi⟩]
theorem k_tswr {x : Int32} {lo hi : Int} {ts : List Nat} {d t v : Nat} (ho : P.1 y pc = o_tsw lo hi ts d) (hv : x = nI v) (hc : ¬ ((nI v).toInt < lo ∨ hi < (nI v).toInt)) (ht : ts[((nI v).toInt - lo).toNat]? = some t) : zEv P r y pc ls (.int x :: st) H = zEv P r y t ls st H := by
  rw [hv]
  exact k_tsw ho hc ht
end
theorem zsL_e {h : zH} {g a i : Nat} {x : Int64} : zL (zsL h g a i x) g a i = x := if_pos ⟨rfl, rfl, rfl⟩
theorem zFx_opq {h : zH} (hx : zFx h) : zFx (zOpq h) := by
  obtain ⟨h1, h2, h3, h4⟩ := hx
  refine ⟨Nat.le_succ_of_le h1, fun a ha hb => ?_, h3, fun a ha => ?_⟩
  · have := h2 a ha hb
    exact ⟨(if_neg (by omega)).trans this.1, this.2⟩
  · exact (if_neg (by omega)).trans (h4 a ha)
theorem zAw_opq {h : zH} : zAw h (zOpq h) := ⟨Nat.le_succ _, fun a ha => ⟨⟨if_neg (Nat.ne_of_lt ha), rfl⟩, fun g i => ⟨rfl, rfl, rfl⟩⟩⟩
theorem zKI_aw {h h' : zH} {m : zMm} {O : zOt} {R : Nat → List Nat} {W : Nat → List (Nat × Nat)} {A : zAS} (z : zKI h m O R W A) (hx' : zFx h') (f : zAw h h') : zKI h' m O R W A := by
  have n := z.1.1.1
  refine ⟨zGl_aw z.1 hx' f, z.2.1, fun s hs => ?_, z.2.2.2⟩
  obtain ⟨k1, k2, k3⟩ := z.2.2.1 s hs
  exact ⟨k1, ((f.2 _ (by omega)).2 _ _).2.1.trans k2, k3⟩
theorem zKI_opq {h : zH} {m : zMm} {O : zOt} {R : Nat → List Nat} {W : Nat → List (Nat × Nat)} {A : zAS} (z : zKI h m O R W A) : zKI (zOpq h) m O R W A := zKI_aw z (zFx_opq z.1.1) zAw_opq
/-- what a call makes -/
def zWc (c k : Nat) (h h' : zH) : Prop := zN h ≤ zN h' ∧ zC h' ≤ zC h + c ∧ zS h' ≤ zS h + k
section
variable {L : Nat} {xs : Nat → Int32} {h : zH} {m : zMm} {O : zOt} {R : Nat → List Nat} {W : Nat → List (Nat × Nat)} {A : zAS} {K : Nat}
theorem zcR_c (A : zAS) (p : Int32) : (zcR A p).1 = 0 ∨ (zcR A p).1 = 1 := by
  unfold zcR
  cases zsn p with
  | none => exact Or.inr rfl
  | some s => exact Or.inl rfl
theorem zcY_c (A : zAS) (p i : Int32) : (zcY A p i).1 = 0 ∨ (zcY A p i).1 = 1 := by
  unfold zcY
  cases zsn p with
  | none => exact Or.inr rfl
  | some s =>
    dsimp only
    cases zix i (zaT A s).length with
    | none => exact Or.inr rfl
    | some k => exact Or.inl rfl
theorem zcC_c (A : zAS) (p : Int32) : (zcC A p).1 = 0 ∨ (zcC A p).1 = 1 ∨ (zcC A p).1 = 2 := by
  unfold zcC
  cases zsn p with
  | none => exact Or.inr (Or.inl rfl)
  | some s =>
    dsimp only
    split
    · exact Or.inr (Or.inr rfl)
    · exact Or.inl rfl
theorem zaTy_c (A : zAS) (p q : Int32) : (zaTy A p q).1 = 0 ∨ (zaTy A p q).1 = 1 ∨ (zaTy A p q).1 = 2 ∨ (zaTy A p q).1 = 3 := by
  unfold zaTy
  cases zsn p with
  | none => exact Or.inr (Or.inl rfl)
  | some s =>
    dsimp only
    split
    · exact Or.inr (Or.inr (Or.inl rfl))
    · split
      · exact Or.inr (Or.inr (Or.inr rfl))
      · split
        · exact Or.inl rfl
        · exact Or.inl rfl
theorem zcE_c (A : zAS) (p : Int32) : ((zcE A p).1 = 0 ∨ (zcE A p).1 = 1 ∨ (zcE A p).1 = 2 ∨ (zcE A p).1 = 3) ∧ (zcE A p).2.1 < 2 := by
  unfold zcE
  cases zsn p with
  | none => exact ⟨Or.inr (Or.inl rfl), (by decide : 0 < 2)⟩
  | some s =>
    dsimp only
    split
    · exact ⟨Or.inr (Or.inr (Or.inl rfl)), (by decide : 0 < 2)⟩
    · cases zread (zacl A s) (zaE A s (zacl A s)) (zaL A s).length with
      | none => exact ⟨Or.inr (Or.inr (Or.inr rfl)), (by decide : 0 < 2)⟩
      | some x =>
        obtain ⟨k, u, t, a⟩ := x
        unfold zEd
        dsimp only
        split
        · exact ⟨Or.inl rfl, (by decide : 1 < 2)⟩
        · exact ⟨Or.inl rfl, (by decide : 0 < 2)⟩
theorem zcG_c (A : zAS) (p i w : Int32) : (zcG A p i w).1 = 0 ∨ (zcG A p i w).1 = 1 := by
  unfold zcG
  cases zbn p with
  | none => exact Or.inr rfl
  | some b =>
    dsimp only
    split
    · exact Or.inr rfl
    · cases zix i (zaM A b).length with
      | none => exact Or.inr rfl
      | some k =>
        dsimp only
        cases (zaM A b)[k]? with
        | none => exact Or.inr rfl
        | some g =>
          dsimp only
          split
          · exact Or.inl rfl
          · split
            · exact Or.inl rfl
            · split
              · exact Or.inl rfl
              · exact Or.inr rfl

theorem s154 (z : zKI h m O R W A) (C : zCI K A) (p q : Int32) : ∃ h' m', zCl (zPr L xs) 154 [.ref 100, .int p, .int q, .ref 154] (zMH h m) = some (.inl (some (.int (nI (zaTy A p q).1))), zMH h' m') ∧ zKI h' m' O R W (zaTy A p q).2.2 ∧ zWc 70 400 h h' ∧ (∀ g a i, 132 ≤ a → m' g a i = m g a i) ∧ ((zaTy A p q).1 = 0 → zL h' 0 154 0 = nL (zaTy A p q).2.1.toNat) := by
  have hx := z.1.1
  obtain ⟨h1, m1, e, z1, f1⟩ := s71 (L := L) (xs := xs) z C p q
  rw [en_154]
  rcases zaTy_c A p q with c | c | c | c
  · rw [c] at e ⊢
    have w : ∀ b, zEv (zPr L xs) 3 154 8 [.val (.ref 100), .val (.int p), .val (.int q), .val (.ref 154), .unset] [.int (nI (Bool.toNat b)), .int 0, .ref 154] (zMH h1 m1) = some (.inl (some (.int (nI 0))), zMH (zsL h1 0 154 0 (nL b.toNat)) m1) := by
      intro b
      cases b with
      | true => exact Eq.trans (zEv_go lk_154_8 rfl) (Eq.trans (zEv_go lk_154_11 rfl) (Eq.trans (zEv_go lk_154_12 rfl) (Eq.trans (k_last0 lk_154_16 (show zT (zMH h1 m1) 154 = 21 from xT_154 z1.1.1) (show zE (zMH h1 m1) 154 = 1 from xE_154 z1.1.1)) (Eq.trans (zEv_go lk_154_17 rfl) (Eq.trans (zEv_go lk_154_32 rfl) (k_iret lk_154_33 rfl))))))
      | false => exact Eq.trans (zEv_go lk_154_8 rfl) (Eq.trans (zEv_go lk_154_15 rfl) (Eq.trans (k_last0 lk_154_16 (show zT (zMH h1 m1) 154 = 21 from xT_154 z1.1.1) (show zE (zMH h1 m1) 154 = 1 from xE_154 z1.1.1)) (Eq.trans (zEv_go lk_154_17 rfl) (Eq.trans (zEv_go lk_154_32 rfl) (k_iret lk_154_33 rfl)))))
    exact ⟨zsL h1 0 154 0 (nL (zaTy A p q).2.1.toNat), m1, Eq.trans (zEv_go lk_154_0 rfl) (Eq.trans (zEv_go lk_154_1 rfl) (Eq.trans (zEv_go lk_154_2 rfl) (Eq.trans (zEv_go lk_154_3 rfl) (Eq.trans (zEv_go lk_154_4 rfl) (Eq.trans (k_cv (a := 100) lk_154_5 rfl rfl (Or.inl (xT_100 hx)) rfl rfl (rk_71 _) (by decide) e) (w _)))))), z1, ⟨f1.1.1, by have := f1.1.2.1; exact Nat.le_trans this (by omega), by have := f1.1.2.2; exact Nat.le_trans this (by omega)⟩, f1.2.2, fun _ => zsL_e⟩
  · rw [c] at e ⊢
    exact ⟨zOpq h1, m1, Eq.trans (zEv_go lk_154_0 rfl) (Eq.trans (zEv_go lk_154_1 rfl) (Eq.trans (zEv_go lk_154_2 rfl) (Eq.trans (zEv_go lk_154_3 rfl) (Eq.trans (zEv_go lk_154_4 rfl) (Eq.trans (k_cvt2 (t := 20) (E := "java/lang/IndexOutOfBoundsException") (a := 100) lk_154_5 rfl rfl (Or.inl (xT_100 hx)) rfl rfl (rk_71 _) (by decide) e (by decide +kernel : zHand 154 5 "java/lang/IndexOutOfBoundsException" = some (some 20))) (Eq.trans (k_astore lk_154_20 rfl rfl) (Eq.trans (zEv_go lk_154_22 rfl) (k_iret lk_154_23 rfl)))))))), zKI_opq z1, ⟨Nat.le_succ_of_le f1.1.1, by have := f1.1.2.1; exact Nat.le_trans this (by omega), by have := f1.1.2.2; exact Nat.le_trans this (by omega)⟩, f1.2.2, (fun q => by cases q)⟩
  · rw [c] at e ⊢
    exact ⟨zOpq h1, m1, Eq.trans (zEv_go lk_154_0 rfl) (Eq.trans (zEv_go lk_154_1 rfl) (Eq.trans (zEv_go lk_154_2 rfl) (Eq.trans (zEv_go lk_154_3 rfl) (Eq.trans (zEv_go lk_154_4 rfl) (Eq.trans (k_cvt2 (t := 24) (E := "java/lang/IllegalStateException") (a := 100) lk_154_5 rfl rfl (Or.inl (xT_100 hx)) rfl rfl (rk_71 _) (by decide) e (by decide +kernel : zHand 154 5 "java/lang/IllegalStateException" = some (some 24))) (Eq.trans (k_astore lk_154_24 rfl rfl) (Eq.trans (zEv_go lk_154_26 rfl) (k_iret lk_154_27 rfl)))))))), zKI_opq z1, ⟨Nat.le_succ_of_le f1.1.1, by have := f1.1.2.1; exact Nat.le_trans this (by omega), by have := f1.1.2.2; exact Nat.le_trans this (by omega)⟩, f1.2.2, (fun q => by cases q)⟩
  · rw [c] at e ⊢
    exact ⟨zOpq h1, m1, Eq.trans (zEv_go lk_154_0 rfl) (Eq.trans (zEv_go lk_154_1 rfl) (Eq.trans (zEv_go lk_154_2 rfl) (Eq.trans (zEv_go lk_154_3 rfl) (Eq.trans (zEv_go lk_154_4 rfl) (Eq.trans (k_cvt2 (t := 28) (E := "java/lang/IllegalArgumentException") (a := 100) lk_154_5 rfl rfl (Or.inl (xT_100 hx)) rfl rfl (rk_71 _) (by decide) e (by decide +kernel : zHand 154 5 "java/lang/IllegalArgumentException" = some (some 28))) (Eq.trans (k_astore lk_154_28 rfl rfl) (Eq.trans (zEv_go lk_154_30 rfl) (k_iret lk_154_31 rfl)))))))), zKI_opq z1, ⟨Nat.le_succ_of_le f1.1.1, by have := f1.1.2.1; exact Nat.le_trans this (by omega), by have := f1.1.2.2; exact Nat.le_trans this (by omega)⟩, f1.2.2, (fun q => by cases q)⟩
theorem s155 (z : zKI h m O R W A) (C : zCI K A) (hK : K ≤ 63) (p : Int32) : ∃ h' m' O' R' W', zCl (zPr L xs) 155 [.ref 100, .int p, .ref 154] (zMH h m) = some (.inl (some (.int (nI (zcE A p).1))), zMH h' m') ∧ zKI h' m' O' R' W' (zcE A p).2.2 ∧ zWc 70 400 h h' ∧ (∀ g a i, 132 ≤ a → m' g a i = m g a i) ∧ ((zcE A p).1 = 0 → zL h' 0 154 0 = nL (zcE A p).2.1) := by
  have hx := z.1.1
  obtain ⟨h1, m1, O1, R1, W1, e, z1, f1⟩ := s72 (L := L) (xs := xs) z C hK p
  rw [en_155]
  rcases (zcE_c A p).1 with c | c | c | c
  · rw [c] at e ⊢
    have vl : (zcE A p).2.1 < 2147483648 := Nat.lt_trans (zcE_c A p).2 (by decide)
    refine ⟨zsL h1 0 154 0 (nL (zcE A p).2.1), m1, O1, R1, W1, Eq.trans (zEv_go lk_155_0 rfl) (Eq.trans (zEv_go lk_155_1 rfl) (Eq.trans (zEv_go lk_155_2 rfl) (Eq.trans (zEv_go lk_155_3 rfl) (Eq.trans (k_cv (a := 100) lk_155_4 rfl rfl (Or.inl (xT_100 hx)) rfl rfl (rk_72 _) (by decide) e) (Eq.trans (zEv_go lk_155_7 rfl) (?_)))))), z1, ⟨f1.1.1, by have := f1.1.2.1; exact Nat.le_trans this (by omega), by have := f1.1.2.2; exact Nat.le_trans this (by omega)⟩, f1.2.2, fun _ => zsL_e⟩
    rw [zl_i2l vl]
    exact Eq.trans (k_last0 lk_155_8 (show zT (zMH h1 m1) 154 = 21 from xT_154 z1.1.1) (show zE (zMH h1 m1) 154 = 1 from xE_154 z1.1.1)) (Eq.trans (zEv_go lk_155_9 rfl) (Eq.trans (zEv_go lk_155_21 rfl) (k_iret lk_155_22 rfl)))
  · rw [c] at e ⊢
    exact ⟨zOpq h1, m1, O1, R1, W1, Eq.trans (zEv_go lk_155_0 rfl) (Eq.trans (zEv_go lk_155_1 rfl) (Eq.trans (zEv_go lk_155_2 rfl) (Eq.trans (zEv_go lk_155_3 rfl) (Eq.trans (k_cvt2 (t := 12) (E := "java/lang/IndexOutOfBoundsException") (a := 100) lk_155_4 rfl rfl (Or.inl (xT_100 hx)) rfl rfl (rk_72 _) (by decide) e (by decide +kernel : zHand 155 4 "java/lang/IndexOutOfBoundsException" = some (some 12))) (Eq.trans (k_astore lk_155_12 rfl rfl) (Eq.trans (zEv_go lk_155_13 rfl) (k_iret lk_155_14 rfl))))))), zKI_opq z1, ⟨Nat.le_succ_of_le f1.1.1, by have := f1.1.2.1; exact Nat.le_trans this (by omega), by have := f1.1.2.2; exact Nat.le_trans this (by omega)⟩, f1.2.2, (fun q => by cases q)⟩
  · rw [c] at e ⊢
    exact ⟨zOpq h1, m1, O1, R1, W1, Eq.trans (zEv_go lk_155_0 rfl) (Eq.trans (zEv_go lk_155_1 rfl) (Eq.trans (zEv_go lk_155_2 rfl) (Eq.trans (zEv_go lk_155_3 rfl) (Eq.trans (k_cvt2 (t := 15) (E := "java/lang/IllegalStateException") (a := 100) lk_155_4 rfl rfl (Or.inl (xT_100 hx)) rfl rfl (rk_72 _) (by decide) e (by decide +kernel : zHand 155 4 "java/lang/IllegalStateException" = some (some 15))) (Eq.trans (k_astore lk_155_15 rfl rfl) (Eq.trans (zEv_go lk_155_16 rfl) (k_iret lk_155_17 rfl))))))), zKI_opq z1, ⟨Nat.le_succ_of_le f1.1.1, by have := f1.1.2.1; exact Nat.le_trans this (by omega), by have := f1.1.2.2; exact Nat.le_trans this (by omega)⟩, f1.2.2, (fun q => by cases q)⟩
  · rw [c] at e ⊢
    exact ⟨zOpq h1, m1, O1, R1, W1, Eq.trans (zEv_go lk_155_0 rfl) (Eq.trans (zEv_go lk_155_1 rfl) (Eq.trans (zEv_go lk_155_2 rfl) (Eq.trans (zEv_go lk_155_3 rfl) (Eq.trans (k_cvt2 (t := 18) (E := "java/lang/IllegalArgumentException") (a := 100) lk_155_4 rfl rfl (Or.inl (xT_100 hx)) rfl rfl (rk_72 _) (by decide) e (by decide +kernel : zHand 155 4 "java/lang/IllegalArgumentException" = some (some 18))) (Eq.trans (k_astore lk_155_18 rfl rfl) (Eq.trans (zEv_go lk_155_19 rfl) (k_iret lk_155_20 rfl))))))), zKI_opq z1, ⟨Nat.le_succ_of_le f1.1.1, by have := f1.1.2.1; exact Nat.le_trans this (by omega), by have := f1.1.2.2; exact Nat.le_trans this (by omega)⟩, f1.2.2, (fun q => by cases q)⟩
theorem s156 (z : zKI h m O R W A) (C : zCI K A) (p : Int32) : ∃ h' m', zCl (zPr L xs) 156 [.ref 100, .int p] (zMH h m) = some (.inl (some (.int (nI (zcC A p).1))), zMH h' m') ∧ zKI h' m' O R W (zcC A p).2 ∧ zWc 70 400 h h' ∧ (∀ g a i, 132 ≤ a → m' g a i = m g a i) := by
  have hx := z.1.1
  obtain ⟨h1, m1, e, z1, f1⟩ := s73 (L := L) (xs := xs) z C p
  rw [en_156]
  rcases zcC_c A p with c | c | c
  · rw [c] at e ⊢
    exact ⟨h1, m1, Eq.trans (zEv_go lk_156_0 rfl) (Eq.trans (zEv_go lk_156_1 rfl) (Eq.trans (k_cv (a := 100) lk_156_2 rfl rfl (Or.inl (xT_100 hx)) rfl rfl (rk_73 _) (by decide) e) (Eq.trans (zEv_go lk_156_5 rfl) (Eq.trans (zEv_go lk_156_14 rfl) (k_iret lk_156_15 rfl))))), z1, ⟨f1.1.1, by have := f1.1.2.1; omega, by have := f1.1.2.2; omega⟩, f1.2.2⟩
  · rw [c] at e ⊢
    exact ⟨zOpq h1, m1, Eq.trans (zEv_go lk_156_0 rfl) (Eq.trans (zEv_go lk_156_1 rfl) (Eq.trans (k_cvt2 (t := 8) (E := "java/lang/IndexOutOfBoundsException") (a := 100) lk_156_2 rfl rfl (Or.inl (xT_100 hx)) rfl rfl (rk_73 _) (by decide) e (by decide +kernel : zHand 156 2 "java/lang/IndexOutOfBoundsException" = some (some 8))) (Eq.trans (k_astore lk_156_8 rfl rfl) (Eq.trans (zEv_go lk_156_9 rfl) (k_iret lk_156_10 rfl))))), zKI_opq z1, ⟨Nat.le_succ_of_le f1.1.1, by have := f1.1.2.1; exact Nat.le_trans this (by omega), by have := f1.1.2.2; exact Nat.le_trans this (by omega)⟩, f1.2.2⟩
  · rw [c] at e ⊢
    exact ⟨zOpq h1, m1, Eq.trans (zEv_go lk_156_0 rfl) (Eq.trans (zEv_go lk_156_1 rfl) (Eq.trans (k_cvt2 (t := 11) (E := "java/lang/IllegalStateException") (a := 100) lk_156_2 rfl rfl (Or.inl (xT_100 hx)) rfl rfl (rk_73 _) (by decide) e (by decide +kernel : zHand 156 2 "java/lang/IllegalStateException" = some (some 11))) (Eq.trans (k_astore lk_156_11 rfl rfl) (Eq.trans (zEv_go lk_156_12 rfl) (k_iret lk_156_13 rfl))))), zKI_opq z1, ⟨Nat.le_succ_of_le f1.1.1, by have := f1.1.2.1; exact Nat.le_trans this (by omega), by have := f1.1.2.2; exact Nat.le_trans this (by omega)⟩, f1.2.2⟩
theorem s157 (z : zKI h m O R W A) (p : Int32) (vl : (zcR A p).2 < 2147483648) : ∃ h', zCl (zPr L xs) 157 [.ref 100, .int p, .ref 154] (zMH h m) = some (.inl (some (.int (nI (zcR A p).1))), zMH h' m) ∧ zKI h' m O R W A ∧ zWc 70 400 h h' ∧ ((zcR A p).1 = 0 → zL h' 0 154 0 = nL (zcR A p).2) := by
  have hx := z.1.1
  obtain ⟨h1, e, z1, f1⟩ := s74 (L := L) (xs := xs) z p
  rw [en_157]
  rcases zcR_c A p with c | c
  · rw [c] at e ⊢
    have vl : (zcR A p).2 < 2147483648 := vl
    refine ⟨zsL h1 0 154 0 (nL (zcR A p).2), Eq.trans (zEv_go lk_157_0 rfl) (Eq.trans (zEv_go lk_157_1 rfl) (Eq.trans (zEv_go lk_157_2 rfl) (Eq.trans (zEv_go lk_157_3 rfl) (Eq.trans (k_cv (a := 100) lk_157_4 rfl rfl (Or.inl (xT_100 hx)) rfl rfl (rk_74 _) (by decide) e) (Eq.trans (zEv_go lk_157_7 rfl) (?_)))))), z1, ⟨f1.1.1, by have := f1.1.2.1; exact Nat.le_trans this (by omega), by have := f1.1.2.2; exact Nat.le_trans this (by omega)⟩, fun _ => zsL_e⟩
    rw [zl_i2l vl]
    exact Eq.trans (k_last0 lk_157_8 (show zT (zMH h1 m) 154 = 21 from xT_154 z1.1.1) (show zE (zMH h1 m) 154 = 1 from xE_154 z1.1.1)) (Eq.trans (zEv_go lk_157_9 rfl) (Eq.trans (zEv_go lk_157_15 rfl) (k_iret lk_157_16 rfl)))
  · rw [c] at e ⊢
    exact ⟨zOpq h1, Eq.trans (zEv_go lk_157_0 rfl) (Eq.trans (zEv_go lk_157_1 rfl) (Eq.trans (zEv_go lk_157_2 rfl) (Eq.trans (zEv_go lk_157_3 rfl) (Eq.trans (k_cvt2 (t := 12) (E := "java/lang/IndexOutOfBoundsException") (a := 100) lk_157_4 rfl rfl (Or.inl (xT_100 hx)) rfl rfl (rk_74 _) (by decide) e (by decide +kernel : zHand 157 4 "java/lang/IndexOutOfBoundsException" = some (some 12))) (Eq.trans (k_astore lk_157_12 rfl rfl) (Eq.trans (zEv_go lk_157_13 rfl) (k_iret lk_157_14 rfl))))))), zKI_opq z1, ⟨Nat.le_succ_of_le f1.1.1, by have := f1.1.2.1; exact Nat.le_trans this (by omega), by have := f1.1.2.2; exact Nat.le_trans this (by omega)⟩, (fun q => by cases q)⟩
theorem s158 (z : zKI h m O R W A) (C : zCI K A) (p i : Int32) (vl : (zcY A p i).2 < 2147483648) : ∃ h', zCl (zPr L xs) 158 [.ref 100, .int p, .int i, .ref 154] (zMH h m) = some (.inl (some (.int (nI (zcY A p i).1))), zMH h' m) ∧ zKI h' m O R W A ∧ zWc 70 400 h h' ∧ ((zcY A p i).1 = 0 → zL h' 0 154 0 = nL (zcY A p i).2) := by
  have hx := z.1.1
  obtain ⟨h1, e, z1, f1⟩ := s75 (L := L) (xs := xs) z C p i
  rw [en_158]
  rcases zcY_c A p i with c | c
  · rw [c] at e ⊢
    have vl : (zcY A p i).2 < 2147483648 := vl
    refine ⟨zsL h1 0 154 0 (nL (zcY A p i).2), Eq.trans (zEv_go lk_158_0 rfl) (Eq.trans (zEv_go lk_158_1 rfl) (Eq.trans (zEv_go lk_158_2 rfl) (Eq.trans (zEv_go lk_158_3 rfl) (Eq.trans (zEv_go lk_158_4 rfl) (Eq.trans (k_cv (a := 100) lk_158_5 rfl rfl (Or.inl (xT_100 hx)) rfl rfl (rk_75 _) (by decide) e) (Eq.trans (zEv_go lk_158_8 rfl) (?_))))))), z1, ⟨f1.1.1, by have := f1.1.2.1; exact Nat.le_trans this (by omega), by have := f1.1.2.2; exact Nat.le_trans this (by omega)⟩, fun _ => zsL_e⟩
    rw [zl_i2l vl]
    exact Eq.trans (k_last0 lk_158_9 (show zT (zMH h1 m) 154 = 21 from xT_154 z1.1.1) (show zE (zMH h1 m) 154 = 1 from xE_154 z1.1.1)) (Eq.trans (zEv_go lk_158_10 rfl) (Eq.trans (zEv_go lk_158_17 rfl) (k_iret lk_158_18 rfl)))
  · rw [c] at e ⊢
    exact ⟨zOpq h1, Eq.trans (zEv_go lk_158_0 rfl) (Eq.trans (zEv_go lk_158_1 rfl) (Eq.trans (zEv_go lk_158_2 rfl) (Eq.trans (zEv_go lk_158_3 rfl) (Eq.trans (zEv_go lk_158_4 rfl) (Eq.trans (k_cvt2 (t := 13) (E := "java/lang/IndexOutOfBoundsException") (a := 100) lk_158_5 rfl rfl (Or.inl (xT_100 hx)) rfl rfl (rk_75 _) (by decide) e (by decide +kernel : zHand 158 5 "java/lang/IndexOutOfBoundsException" = some (some 13))) (Eq.trans (k_astore lk_158_13 rfl rfl) (Eq.trans (zEv_go lk_158_15 rfl) (k_iret lk_158_16 rfl)))))))), zKI_opq z1, ⟨Nat.le_succ_of_le f1.1.1, by have := f1.1.2.1; exact Nat.le_trans this (by omega), by have := f1.1.2.2; exact Nat.le_trans this (by omega)⟩, (fun q => by cases q)⟩
theorem s159 (z : zKI h m O R W A) (p i w : Int32) (vl : (zcG A p i w).2 < 2147483648) : ∃ h', zCl (zPr L xs) 159 [.ref 100, .int p, .int i, .int w, .ref 154] (zMH h m) = some (.inl (some (.int (nI (zcG A p i w).1))), zMH h' m) ∧ zKI h' m O R W A ∧ zWc 70 400 h h' ∧ ((zcG A p i w).1 = 0 → zL h' 0 154 0 = nL (zcG A p i w).2) := by
  have hx := z.1.1
  obtain ⟨h1, e, z1, f1⟩ := s78 (L := L) (xs := xs) z p i w
  rw [en_159]
  rcases zcG_c A p i w with c | c
  · rw [c] at e ⊢
    have vl : (zcG A p i w).2 < 2147483648 := vl
    refine ⟨zsL h1 0 154 0 (nL (zcG A p i w).2), Eq.trans (zEv_go lk_159_0 rfl) (Eq.trans (zEv_go lk_159_2 rfl) (Eq.trans (zEv_go lk_159_3 rfl) (Eq.trans (zEv_go lk_159_4 rfl) (Eq.trans (zEv_go lk_159_5 rfl) (Eq.trans (zEv_go lk_159_6 rfl) (Eq.trans (k_cv (a := 100) lk_159_7 rfl rfl (Or.inl (xT_100 hx)) rfl rfl (rk_78 _) (by decide) e) (Eq.trans (zEv_go lk_159_10 rfl) (?_)))))))), z1, ⟨f1.1.1, by have := f1.1.2.1; exact Nat.le_trans this (by omega), by have := f1.1.2.2; exact Nat.le_trans this (by omega)⟩, fun _ => zsL_e⟩
    rw [zl_i2l vl]
    exact Eq.trans (k_last0 lk_159_11 (show zT (zMH h1 m) 154 = 21 from xT_154 z1.1.1) (show zE (zMH h1 m) 154 = 1 from xE_154 z1.1.1)) (Eq.trans (zEv_go lk_159_12 rfl) (Eq.trans (zEv_go lk_159_19 rfl) (k_iret lk_159_20 rfl)))
  · rw [c] at e ⊢
    exact ⟨zOpq h1, Eq.trans (zEv_go lk_159_0 rfl) (Eq.trans (zEv_go lk_159_2 rfl) (Eq.trans (zEv_go lk_159_3 rfl) (Eq.trans (zEv_go lk_159_4 rfl) (Eq.trans (zEv_go lk_159_5 rfl) (Eq.trans (zEv_go lk_159_6 rfl) (Eq.trans (k_cvt2 (t := 15) (E := "java/util/NoSuchElementException") (a := 100) lk_159_7 rfl rfl (Or.inl (xT_100 hx)) rfl rfl (rk_78 _) (by decide) e (by decide +kernel : zHand 159 7 "java/util/NoSuchElementException" = some (some 15))) (Eq.trans (k_astore lk_159_15 rfl rfl) (Eq.trans (zEv_go lk_159_17 rfl) (k_iret lk_159_18 rfl))))))))), zKI_opq z1, ⟨Nat.le_succ_of_le f1.1.1, by have := f1.1.2.1; exact Nat.le_trans this (by omega), by have := f1.1.2.2; exact Nat.le_trans this (by omega)⟩, (fun q => by cases q)⟩
end
