section
variable {L : Nat} {xs : Nat → Int32} {h : zH} {m : zMm}
theorem s9 {i n : Nat} (hn : n ≤ 64) (hi : i < n) : zCl (zPr L xs) 9 [.int (nI i), .int (nI n)] (zMH h m) = some (.inl none, zMH h m) := by
  show zEv (zPr L xs) 1 9 0 [.val (.int (nI i)), .val (.int (nI n))] [] (zMH h m) = _
  exact (zEv_go lk_9_0 rfl).trans ((zEv_go lk_9_1 rfl).trans ((zEv_go lk_9_2 rfl).trans ((k_cs lk_9_5 rfl (rk_17 _) (by decide) (s17 (v := .float 0) hn hi)).trans ((zEv_go lk_9_8 rfl).trans (zEv_fin lk_9_9 rfl)))))
theorem s10 {q i : Nat} {T : List Nat} (hb : zBy h q T) (hT : (∀ x ∈ T, x < 127) ∧ T.length ≤ 64) (hi : i < T.length) : zCl (zPr L xs) 10 [.ref q, .int (nI i)] (zMH h m) = some (.inl (some (.int (nI (T.getD i 0)))), zMH h m) := by
  have lt : T.getD i 0 < 127 := by
    rw [List.getD_eq_getElem?_getD, List.getElem?_eq_getElem hi]
    exact hT.1 _ (List.getElem_mem hi)
  have e1 : ∀ v, v < 127 → nI v &&& 255 = nI v := by decide
  have e2 : ∀ v, v < 127 → ((nI v).toUInt32 % 65536).toInt32 = nI v := by decide
  rw [en_10]
  refine (zEv_go lk_10_0 rfl).trans ((zEv_go lk_10_1 rfl).trans ((k_blen lk_10_2 hb).trans ((k_cs lk_10_3 rfl (rk_9 _) (by decide) (s9 hT.2 hi)).trans ((zEv_go lk_10_6 rfl).trans ((zEv_go lk_10_7 rfl).trans ((k_bald lk_10_8 hb hT.2 hi).trans ((zEv_go lk_10_9 rfl).trans ((zEv_go lk_10_12 rfl).trans ?_))))))))
  dsimp only
  rw [e1 _ lt]
  refine (zEv_go lk_10_13 rfl).trans ?_
  dsimp only
  rw [e2 _ lt]
  exact k_iret lk_10_14 (zi_char (by omega))
theorem s4 {p i : Nat} {T : List Nat} (hs : zSt h p T) (hi : i < T.length) : zCl (zPr L xs) 4 [.ref p, .int (nI i)] (zMH h m) = some (.inl (some (.int (nI (T.getD i 0)))), zMH h m) := by
  have h8 := s8 (L := L) (xs := xs) (m := m) hs
  have ht := zSt_t (m := m) hs
  obtain ⟨hT, q, hb, z⟩ := hs
  have lt : T.getD i 0 < 127 := by
    rw [List.getD_eq_getElem?_getD, List.getElem?_eq_getElem hi]
    exact hT.1 _ (List.getElem_mem hi)
  rw [en_4]
  exact (zEv_go lk_4_0 rfl).trans ((k_cv (a := p) lk_4_1 rfl rfl ht rfl rfl (rk_8 _) (by decide) h8).trans ((zEv_go lk_4_4 rfl).trans ((zEv_go lk_4_7 rfl).trans ((k_sval lk_4_8 z).trans ((zEv_go lk_4_11 rfl).trans ((k_cs lk_4_12 rfl (rk_10 _) (by decide) (s10 hb hT hi)).trans (k_iret lk_4_15 (zi_char (by omega)))))))))
end
