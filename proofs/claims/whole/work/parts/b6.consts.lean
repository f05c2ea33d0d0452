/-! ===== the constants of the start ===== -/
theorem zu_1 {i : Nat} {w : Cond} (h : tables_1_1[i]? = some w) : w ∈ lw_tbl := List.mem_append_right _ (show w ∈ tables_1 from List.mem_append_left _ (List.mem_of_getElem? h))
theorem zu_2 {i : Nat} {w : Cond} (h : tables_1_2[i]? = some w) : w ∈ lw_tbl := List.mem_append_right _ (show w ∈ tables_1 from List.mem_append_right _ (List.mem_append_left _ (List.mem_of_getElem? h)))
theorem zu_3 {i : Nat} {w : Cond} (h : tables_1_3[i]? = some w) : w ∈ lw_tbl := List.mem_append_right _ (show w ∈ tables_1 from List.mem_append_right _ (List.mem_append_right _ (List.mem_append_left _ (List.mem_of_getElem? h))))
theorem zu_4 {i : Nat} {w : Cond} (h : tables_1_4[i]? = some w) : w ∈ lw_tbl := List.mem_append_right _ (show w ∈ tables_1 from List.mem_append_right _ (List.mem_append_right _ (List.mem_append_right _ (List.mem_append_left _ (List.mem_of_getElem? h)))))
theorem zu_5 {i : Nat} {w : Cond} (h : tables_1_5[i]? = some w) : w ∈ lw_tbl := List.mem_append_right _ (show w ∈ tables_1 from List.mem_append_right _ (List.mem_append_right _ (List.mem_append_right _ (List.mem_append_right _ (List.mem_append_left _ (List.mem_of_getElem? h))))))
theorem zu_6 {i : Nat} {w : Cond} (h : tables_1_6[i]? = some w) : w ∈ lw_tbl := List.mem_append_right _ (show w ∈ tables_1 from List.mem_append_right _ (List.mem_append_right _ (List.mem_append_right _ (List.mem_append_right _ (List.mem_append_right _ (List.mem_of_getElem? h))))))
theorem zgl_0 {args : Array Value} {s : State} (hts : ∀ w ∈ lw_tbl, w.before args s = true) : (Cond.stringRef "MailSessions$Reader" 38 "UID ").before args s = true := (hts _ (zu_2 (i := 218) rfl))
theorem zgl_1 {args : Array Value} {s : State} (hts : ∀ w ∈ lw_tbl, w.before args s = true) : (Cond.stringRef "MailSessions$Reader" 148 "SAFD").before args s = true := (hts _ (zu_3 (i := 49) rfl))
theorem zgl_2 {args : Array Value} {s : State} (hts : ∀ w ∈ lw_tbl, w.before args s = true) : (Cond.stringRef "MailSessions$Reader" 139 "FLAGS").before args s = true := (hts _ (zu_3 (i := 135) rfl))
theorem zgl_3 {args : Array Value} {s : State} (hts : ∀ w ∈ lw_tbl, w.before args s = true) : (Cond.stringRef "MailSessions$Reader" 141 "UID").before args s = true := (hts _ (zu_3 (i := 136) rfl))
theorem zgl_4 {args : Array Value} {s : State} (hts : ∀ w ∈ lw_tbl, w.before args s = true) : (Cond.stringRef "MailSessions$Reader" 143 "TEXT").before args s = true := (hts _ (zu_3 (i := 137) rfl))
theorem zgl_5 {args : Array Value} {s : State} (hts : ∀ w ∈ lw_tbl, w.before args s = true) : (Cond.stringRef "MailSessions$Reader" 166 "ALL").before args s = true := (hts _ (zu_3 (i := 146) rfl))
theorem zgl_6 {args : Array Value} {s : State} (hts : ∀ w ∈ lw_tbl, w.before args s = true) : (Cond.stringRef "MailSessions$Reader" 174 "HAS ").before args s = true := (hts _ (zu_3 (i := 152) rfl))
theorem zgl_7 {args : Array Value} {s : State} (hts : ∀ w ∈ lw_tbl, w.before args s = true) : (Cond.stringRef "MailSessions$Reader" 179 "TEXT ").before args s = true := (hts _ (zu_3 (i := 157) rfl))
theorem zgl_8 {args : Array Value} {s : State} (hts : ∀ w ∈ lw_tbl, w.before args s = true) : (Cond.stringRef "MailSessions$Reader" 185 "NOT ").before args s = true := (hts _ (zu_3 (i := 167) rfl))
theorem zgl_9 {args : Array Value} {s : State} (hts : ∀ w ∈ lw_tbl, w.before args s = true) : (Cond.stringRef "MailSessions$Reader" 189 "OR ").before args s = true := (hts _ (zu_3 (i := 169) rfl))
theorem zgl_10 {args : Array Value} {s : State} (hts : ∀ w ∈ lw_tbl, w.before args s = true) : (Cond.stringRef "MailSessions$Session" 50 " EXISTS").before args s = true := (hts _ (zu_3 (i := 236) rfl))
theorem zgl_11 {args : Array Value} {s : State} (hts : ∀ w ∈ lw_tbl, w.before args s = true) : (Cond.stringRef "MailSessions$Reply" 33 "* ").before args s = true := (hts _ (zu_4 (i := 5) rfl))
theorem zgl_12 {args : Array Value} {s : State} (hts : ∀ w ∈ lw_tbl, w.before args s = true) : (Cond.stringRef "MailSessions$Session" 59 " UIDVALIDITY").before args s = true := (hts _ (zu_4 (i := 21) rfl))
theorem zgl_13 {args : Array Value} {s : State} (hts : ∀ w ∈ lw_tbl, w.before args s = true) : (Cond.stringRef "MailSessions$Session" 64 " UIDNEXT").before args s = true := (hts _ (zu_4 (i := 22) rfl))
theorem zgl_14 {args : Array Value} {s : State} (hts : ∀ w ∈ lw_tbl, w.before args s = true) : (Cond.stringRef "MailSessions$Session" 96 " FETCH ").before args s = true := (hts _ (zu_4 (i := 43) rfl))
theorem zgl_15 {args : Array Value} {s : State} (hts : ∀ w ∈ lw_tbl, w.before args s = true) : (Cond.stringRef "MailSessions$Reply" 47 "SAFD").before args s = true := (hts _ (zu_4 (i := 49) rfl))
theorem zgl_16 {args : Array Value} {s : State} (hts : ∀ w ∈ lw_tbl, w.before args s = true) : (Cond.stringRef "MailSessions$Session" 122 "* SEARCH").before args s = true := (hts _ (zu_4 (i := 66) rfl))
theorem zgl_17 {args : Array Value} {s : State} (hts : ∀ w ∈ lw_tbl, w.before args s = true) : (Cond.stringRef "MailSessions$Session" 137 " EXPUNGE").before args s = true := (hts _ (zu_4 (i := 75) rfl))
theorem zgl_18 {args : Array Value} {s : State} (hts : ∀ w ∈ lw_tbl, w.before args s = true) : (Cond.stringRef "MailSessions" 109 " NO").before args s = true := (hts _ (zu_4 (i := 77) rfl))
theorem zgl_19 {args : Array Value} {s : State} (hts : ∀ w ∈ lw_tbl, w.before args s = true) : (Cond.stringRef "MailSessions" 111 " OK").before args s = true := (hts _ (zu_4 (i := 78) rfl))
theorem zgl_20 {args : Array Value} {s : State} (hts : ∀ w ∈ lw_tbl, w.before args s = true) : (Cond.stringRef "MailSessions$Verb" 79 "NOOP").before args s = true := (hts _ (zu_6 (i := 70) rfl))
theorem zgl_21 {args : Array Value} {s : State} (hts : ∀ w ∈ lw_tbl, w.before args s = true) : (Cond.stringRef "MailSessions$Verb" 83 "CLOSE").before args s = true := (hts _ (zu_6 (i := 71) rfl))
theorem zgl_22 {args : Array Value} {s : State} (hts : ∀ w ∈ lw_tbl, w.before args s = true) : (Cond.stringRef "MailSessions$Verb" 84 "EXPUNGE").before args s = true := (hts _ (zu_6 (i := 72) rfl))
theorem zgl_23 {args : Array Value} {s : State} (hts : ∀ w ∈ lw_tbl, w.before args s = true) : (Cond.stringRef "MailSessions$Verb" 85 "LOGOUT").before args s = true := (hts _ (zu_6 (i := 73) rfl))
theorem zgl_24 {args : Array Value} {s : State} (hts : ∀ w ∈ lw_tbl, w.before args s = true) : (Cond.stringRef "MailSessions$Verb" 87 "CREATE ").before args s = true := (hts _ (zu_6 (i := 74) rfl))
theorem zgl_25 {args : Array Value} {s : State} (hts : ∀ w ∈ lw_tbl, w.before args s = true) : (Cond.stringRef "MailSessions$Verb" 90 "DELETE ").before args s = true := (hts _ (zu_6 (i := 75) rfl))
theorem zgl_26 {args : Array Value} {s : State} (hts : ∀ w ∈ lw_tbl, w.before args s = true) : (Cond.stringRef "MailSessions$Verb" 93 "SELECT ").before args s = true := (hts _ (zu_6 (i := 76) rfl))
theorem zgl_27 {args : Array Value} {s : State} (hts : ∀ w ∈ lw_tbl, w.before args s = true) : (Cond.stringRef "MailSessions$Verb" 96 "EXAMINE ").before args s = true := (hts _ (zu_6 (i := 77) rfl))
theorem zgl_28 {args : Array Value} {s : State} (hts : ∀ w ∈ lw_tbl, w.before args s = true) : (Cond.stringRef "MailSessions$Verb" 99 "APPEND ").before args s = true := (hts _ (zu_6 (i := 78) rfl))
theorem zgl_29 {args : Array Value} {s : State} (hts : ∀ w ∈ lw_tbl, w.before args s = true) : (Cond.stringRef "MailSessions$Verb" 102 "STORE ").before args s = true := (hts _ (zu_6 (i := 79) rfl))
theorem zgl_30 {args : Array Value} {s : State} (hts : ∀ w ∈ lw_tbl, w.before args s = true) : (Cond.stringRef "MailSessions$Verb" 105 "FETCH ").before args s = true := (hts _ (zu_6 (i := 80) rfl))
theorem zgl_31 {args : Array Value} {s : State} (hts : ∀ w ∈ lw_tbl, w.before args s = true) : (Cond.stringRef "MailSessions$Verb" 108 "COPY ").before args s = true := (hts _ (zu_6 (i := 81) rfl))
theorem zgl_32 {args : Array Value} {s : State} (hts : ∀ w ∈ lw_tbl, w.before args s = true) : (Cond.stringRef "MailSessions$Verb" 111 "SEARCH ").before args s = true := (hts _ (zu_6 (i := 82) rfl))
theorem zgl_33 {args : Array Value} {s : State} (hts : ∀ w ∈ lw_tbl, w.before args s = true) : (Cond.stringRef "java/lang/String" 7 "").before args s = true := (hts _ (zu_2 (i := 146) rfl))
theorem zgl_all {args : Array Value} {s : State} (hts : ∀ w ∈ lw_tbl, w.before args s = true) : ∀ (k : Nat) (q : String × Nat × String), zLit[k]? = some q → (Cond.stringRef q.1 q.2.1 q.2.2).before args s = true ∧ zl k = q ∧ k < 34 := by
  intro k q h
  have l : zLit.length = 34 := rfl
  have hk : k < 34 := by rw [← l]; exact (List.getElem?_eq_some_iff.mp h).1
  have e : zl k = q := by unfold zl; rw [List.getD_eq_getElem?_getD, h]; rfl
  refine ⟨?_, e, hk⟩
  rw [← e]
  have jj : k = 0 ∨ k = 1 ∨ k = 2 ∨ k = 3 ∨ k = 4 ∨ k = 5 ∨ k = 6 ∨ k = 7 ∨ k = 8 ∨ k = 9 ∨ k = 10 ∨ k = 11 ∨ k = 12 ∨ k = 13 ∨ k = 14 ∨ k = 15 ∨ k = 16 ∨ k = 17 ∨ k = 18 ∨ k = 19 ∨ k = 20 ∨ k = 21 ∨ k = 22 ∨ k = 23 ∨ k = 24 ∨ k = 25 ∨ k = 26 ∨ k = 27 ∨ k = 28 ∨ k = 29 ∨ k = 30 ∨ k = 31 ∨ k = 32 ∨ k = 33 := by omega
  rcases jj with rfl | rfl | rfl | rfl | rfl | rfl | rfl | rfl | rfl | rfl | rfl | rfl | rfl | rfl | rfl | rfl | rfl | rfl | rfl | rfl | rfl | rfl | rfl | rfl | rfl | rfl | rfl | rfl | rfl | rfl | rfl | rfl | rfl | rfl
  · exact zgl_0 hts
  · exact zgl_1 hts
  · exact zgl_2 hts
  · exact zgl_3 hts
  · exact zgl_4 hts
  · exact zgl_5 hts
  · exact zgl_6 hts
  · exact zgl_7 hts
  · exact zgl_8 hts
  · exact zgl_9 hts
  · exact zgl_10 hts
  · exact zgl_11 hts
  · exact zgl_12 hts
  · exact zgl_13 hts
  · exact zgl_14 hts
  · exact zgl_15 hts
  · exact zgl_16 hts
  · exact zgl_17 hts
  · exact zgl_18 hts
  · exact zgl_19 hts
  · exact zgl_20 hts
  · exact zgl_21 hts
  · exact zgl_22 hts
  · exact zgl_23 hts
  · exact zgl_24 hts
  · exact zgl_25 hts
  · exact zgl_26 hts
  · exact zgl_27 hts
  · exact zgl_28 hts
  · exact zgl_29 hts
  · exact zgl_30 hts
  · exact zgl_31 hts
  · exact zgl_32 hts
  · exact zgl_33 hts
theorem va_T_cg {ty : FieldType} {t N : Nat} {f g : Nat → Value} {A : Nat → Prop} {U : State} {H : Heap} (e : ∀ j, j < N → f j = g j) (h : va_T ty t N f A U H) : va_T ty t N g A U H := by
  obtain ⟨cell, h1, h2, h3, h4, h5, h6, h7⟩ := h
  exact ⟨cell, h1, h2, h3, h4, h5, fun j hj => by rw [← e j hj]; exact h6 j hj, h7⟩
theorem zCF_of {args : Array Value} {s : State} {b L : Nat} {xs : Nat → Int32} (hts : ∀ w ∈ lw_tbl, w.before args s = true) (hgv : (Jvm.Cond.and given_1 narrow_1).before args s = true) (hX : va_X b L xs s s.heap) (hb : b < s.heap.size) : ∃ (cad : Nat → Nat) (ov : Value), zOV ov ∧ cad 15 = b ∧ zCF s.heap.size cad ov L xs s := by
  have hp : zPm args s := fun q => zat_b q _ hgv
  have hA : ∀ a : Nat, a < s.heap.size → ¬ zAb s.heap.size a := fun a ha h => absurd ha (Nat.not_lt.mpr h)
  obtain ⟨sk, hsk⟩ : ∃ f : Nat → Nat × Nat, ∀ k, k < 34 → zSk s k (zAb s.heap.size) args (f k) := by
    have h0 : ∀ k, ∃ p, k < 34 → zSk s k (zAb s.heap.size) args p := fun k => by
      by_cases q : k < 34
      · obtain ⟨p, e⟩ := zstr_all hA hp k q
        exact ⟨p, fun _ => e⟩
      · exact ⟨(0, 0), fun h => absurd h q⟩
    exact Classical.axiomOfChoice h0
  obtain ⟨vk, hvk⟩ : ∃ f : Nat → Nat, ∀ i, i < 13 → (ztV_ i).eval args s none [] s = some (.ref (f i)) := by
    have h0 : ∀ i, ∃ a, i < 13 → (ztV_ i).eval args s none [] s = some (.ref a) := fun i => by
      by_cases q : i < 13
      · obtain ⟨a, c, cA, kA, q1, -⟩ := Cond.exactly_spec (args := args) (first := s) (o := none) (s := s) (idx := []) (zek_all hp i q).1
        exact ⟨a, fun _ => q1⟩
      · exact ⟨0, fun h => absurd h q⟩
    exact Classical.axiomOfChoice h0
  obtain ⟨a1, a2, a3⟩ := zar_1 hp
  obtain ⟨b1, b2, b3⟩ := zar_2 hp
  obtain ⟨c1, c2, c3, c4⟩ := zar_3 hp
  obtain ⟨d1, d2, d3⟩ := zar_4 hp
  obtain ⟨tv, ev, hTv⟩ := va_Tof (f := fun j => .ref (vk j)) (A := zAb s.heap.size) (by decide) a1 (va_eqt a2) (fun j hj => va_eqr (a3 j hj) (hvk j hj)) hA
  obtain ⟨tw, ew, hTw⟩ := va_Tof (f := fun j => .int (zSw.getD j 0)) (A := zAb s.heap.size) (by decide) b1 (va_eqt b2) (fun j hj => va_eqt (b3 j hj)) hA
  obtain ⟨ov, hov, hZ⟩ : ∃ ov, zOV ov ∧ va_Z "jdk/internal/util/Preconditions" "SIOOBE_FORMATTER" "Ljava/util/function/BiFunction;" ov (zAb s.heap.size) s s.heap := by
    rcases va_Zqof (hts _ (zu_2 (i := 190) rfl)) (hts _ (zu_1 (i := 17) rfl)) c2 hA with h | ⟨t, h⟩
    · exact ⟨_, Or.inl rfl, h⟩
    · exact ⟨_, Or.inr ⟨t, rfl⟩, h⟩
  obtain ⟨cad, hcad⟩ : ∃ cad : Nat → Nat, cad = fun a => if a < 13 then vk a else if a = 13 then tv else if a = 14 then tw else if a = 15 then b else if a < 54 then (sk (a - 20)).1 else (sk (a - 60)).2 := ⟨_, rfl⟩
  have e1 : ∀ i, i < 13 → cad i = vk i := fun i hi => by rw [hcad]; exact if_pos hi
  have e13 : cad 13 = tv := by rw [hcad]; rfl
  have e14 : cad 14 = tw := by rw [hcad]; rfl
  have e15 : cad 15 = b := by rw [hcad]; rfl
  have e20 : ∀ k, k < 34 → cad (20 + k) = (sk k).1 := fun k hk => by
    rw [hcad]
    dsimp only
    rw [if_neg (by omega), if_neg (by omega), if_neg (by omega), if_neg (by omega), if_pos (by omega), show 20 + k - 20 = k from by omega]
  have e60 : ∀ k, k < 34 → cad (60 + k) = (sk k).2 := fun k hk => by
    rw [hcad]
    dsimp only
    rw [if_neg (by omega), if_neg (by omega), if_neg (by omega), if_neg (by omega), if_neg (by omega), show 60 + k - 60 = k from by omega]
  refine ⟨cad, ov, hov, e15, ⟨?_, ?_, va_Zof (hts _ (zu_2 (i := 148) rfl)) (hts _ (zu_1 (i := 15) rfl)) (va_eqt c1) hA, hZ⟩, ⟨?_, ?_⟩, fun i hi => ?_, fun k hk => ?_, fun k q hq => ?_, ⟨va_AO.of (hts _ (zu_1 (i := 41) rfl)), va_AO.of (hts _ (zu_1 (i := 34) rfl)), va_AO.of (hts _ (zu_1 (i := 67) rfl))⟩, ⟨va_Nw.of rfl (hts _ (zu_1 (i := 36) rfl)), va_Nw.of rfl (hts _ (zu_1 (i := 69) rfl)), va_Nw.of rfl (hts _ (zu_1 (i := 75) rfl)), va_Nw.of rfl (hts _ (zu_1 (i := 91) rfl)), va_Nw.of rfl (hts _ (zu_2 (i := 81) rfl)), va_Nw.of rfl (hts _ (zu_3 (i := 19) rfl))⟩, ?_, ?_, ⟨vx_Zqof (hts _ (zu_1 (i := 213) rfl)) (hts _ (zu_1 (i := 7) rfl)) c3 hA, vx_Zqof (hts _ (zu_1 (i := 215) rfl)) (hts _ (zu_1 (i := 7) rfl)) c4 hA⟩, ?_, ?_⟩
  · rw [e13]
    exact va_Zof (hts _ (zu_3 (i := 20) rfl)) (hts _ (zu_1 (i := 1) rfl)) ev hA
  · rw [e14]
    exact va_Zof (hts _ (zu_3 (i := 26) rfl)) (hts _ (zu_1 (i := 19) rfl)) ew hA
  · rw [e13]
    exact va_T_cg (fun j hj => by rw [e1 j hj]) hTv
  · rw [e14]
    exact hTw
  · obtain ⟨f1, f2, f3, f4⟩ := zek_all hp i hi
    have hv := hvk i hi
    have hw := (hsk (20 + i) (by omega)).1
    rw [e1 i hi, show 40 + i = 20 + (20 + i) from by omega, e20 (20 + i) (by omega)]
    exact ⟨va_Oof f1 hv hA, vk_OFof hv (va_eqr f3 hw) hA, vk_OFof hv (va_eqt f2) hA, fun j hj => vk_OFof hv (va_eqt (f4 j hj)) hA⟩
  · rw [e20 k hk, e60 k hk]
    exact (hsk k hk).2
  · obtain ⟨g1, g2, g3⟩ := zgl_all hts k q hq
    rw [e20 k g3]
    have := (hsk k g3).1
    rw [← g2] at g1 ⊢
    exact vk_R.of g1 this
  · intro x hx
    rcases List.mem_cons.mp hx with rfl | hx
    · exact va_Nw.of rfl (hts _ (zu_1 (i := 189) rfl))
    rcases List.mem_cons.mp hx with rfl | hx
    · exact va_Nw.of rfl (hts _ (zu_1 (i := 191) rfl))
    rcases List.mem_cons.mp hx with rfl | hx
    · exact va_Nw.of rfl (hts _ (zu_1 (i := 193) rfl))
    exact absurd hx List.not_mem_nil
  · intro x hx
    rcases List.mem_cons.mp hx with rfl | hx
    · exact va_Nw.of rfl (hts _ (zu_2 (i := 30) rfl))
    rcases List.mem_cons.mp hx with rfl | hx
    · exact va_Nw.of rfl (hts _ (zu_2 (i := 12) rfl))
    rcases List.mem_cons.mp hx with rfl | hx
    · exact va_Nw.of rfl (hts _ (zu_1 (i := 188) rfl))
    rcases List.mem_cons.mp hx with rfl | hx
    · exact va_Nw.of rfl (hts _ (zu_4 (i := 110) rfl))
    exact absurd hx List.not_mem_nil
  · intro x hx
    rcases List.mem_cons.mp hx with rfl | hx
    · exact va_Nc.of d1
    rcases List.mem_cons.mp hx with rfl | hx
    · exact va_Nc.of d2
    rcases List.mem_cons.mp hx with rfl | hx
    · exact va_Nc.of d3
    exact absurd hx List.not_mem_nil
  · rw [e15]
    exact ⟨hX, hb, hb⟩
