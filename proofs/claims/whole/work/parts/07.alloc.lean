/-! ===== allocation, constants, what an operation leaves ===== -/
theorem zmap_congr {ad ad' : Nat → Nat} {n : Nat} (hx : ∀ a, a < n → ad' a = ad a) {r : Option Nat} (h : ∀ b, r = some b → b < n) : r.map ad' = r.map ad := by
  cases r with
  | none => rfl
  | some b => exact congrArg some (hx b (h b rfl))
theorem zst_congr {o : Value} {ad ad' : Nat → Nat} {n : Nat} (hx : ∀ a, a < n → ad' a = ad a) {st : List Value} (h : ∀ v ∈ st, zwf n v) : st.map (zmv o ad') = st.map (zmv o ad) := List.map_congr_left fun v hv => zmv_congr hx (h v hv)
theorem zRel_new {G : zG} {D : va_G} {s : State} {ad : Nat → Nat} {h : zH} {H H1 : Heap} {t n k : Nat} (rel : zRel G D s ad h H) (z1 : H1.size = H.size + 1) (o1 : ∀ x : Nat, x < H.size → H1[x]? = H[x]?) (ht : zDy t)
    (hc : zcell D s (va_up ad (zN h) H.size) (zNew h t n k) H1 (zN h)) : zRel G D s (va_up ad (zN h) H.size) (zNew h t n k) H1 := by
  obtain ⟨r1, r2, r3, r4, r5, r6⟩ := rel
  have hx : ∀ a, a < zN h → va_up ad (zN h) H.size a = ad a := fun a ha => va_up_ne _ _ (by omega)
  have hTn : ∀ a, a ≠ zN h → zT (zNew h t n k) a = zT h a := fun a ha => if_neg ha
  have hT0 : zT (zNew h t n k) (zN h) = t := if_pos rfl
  have hN : zN (zNew h t n k) = zN h + 1 := rfl
  have hRn : ∀ g a i, a ≠ zN h → zR (zNew h t n k) g a i = zR h g a i := fun g a i ha => if_neg ha
  have hR0 : ∀ g i, zR (zNew h t n k) g (zN h) i = none := fun g i => if_pos rfl
  refine ⟨by omega, fun g a i b hb => ?_, fun a ha => ?_, fun a b ha hb e => ?_, fun a => ?_, fun a ha => ?_⟩
  · rw [hN]
    by_cases e : a = zN h
    · subst e; rw [hR0] at hb; cases hb
    · rw [hRn g a i e] at hb
      have := r2 g a i b hb
      omega
  · by_cases e : a = zN h
    · subst e
      rw [va_up_self, hN]
      exact ⟨by omega, r1, by omega⟩
    · rw [hTn a e] at ha
      have h3 := r3 a ha
      rw [hx a h3.1, hN]
      exact ⟨by omega, h3.2.1, by omega⟩
  · by_cases e1 : a = zN h
    · by_cases e2 : b = zN h
      · omega
      · rw [hTn b e2] at hb
        have h3 := r3 b hb
        subst e1
        rw [va_up_self, hx b h3.1] at e
        omega
    · rw [hTn a e1] at ha
      have h3 := r3 a ha
      by_cases e2 : b = zN h
      · subst e2
        rw [va_up_self, hx a h3.1] at e
        omega
      · rw [hTn b e2] at hb
        have h4 := r3 b hb
        rw [hx a h3.1, hx b h4.1] at e
        exact r4 a b ha hb e
  · by_cases e : a = zN h
    · subst e; exact hc
    · by_cases hd : zDy (zT h a)
      · have h3 := r3 a hd
        exact zcell_congr (hTn a e) (if_neg e) (fun g i => if_neg e) (fun g i => if_neg e) (fun g i => by rw [hRn g a i e]; exact zmap_congr hx (r2 g a i)) (hx a h3.1) (o1 _ h3.2.2) (r5 a)
      · exact zcell_nd (by rw [hTn a e]; exact hd)
  · by_cases e : a = zN h
    · subst e
      rw [hT0] at ha
      unfold zDy at ht
      omega
    · rw [hTn a e] at ha ⊢
      have h6 := r6 a ha
      rw [hx a h6.1, hN]
      exact ⟨by omega, h6.2⟩
theorem zFv_new {ad : Nat → Nat} {h : zH} {t n m k j : Nat} (hf : zTy k j ≠ .float ∧ zTy k j ≠ .double) : zFv ad (zNew h t n m) k (zN h) j = defaultValue (zTy k j) := by
  unfold zFv
  have e1 : zI (zNew h t n m) (zgf k j) (zN h) 0 = 0 := if_pos rfl
  have e2 : zL (zNew h t n m) (zgf k j) (zN h) 0 = 0 := if_pos rfl
  have e3 : zR (zNew h t n m) (zgf k j) (zN h) 0 = none := if_pos rfl
  rw [e1, e2, e3]
  cases hz : zTy k j <;> first | rfl | exact absurd hz hf.1 | exact absurd hz hf.2

theorem zs_new {G : zG} {own : String} {cc : ByteArray} {nL : Nat} {ini : Bool} {pc : Nat} {C : String} {T : u_T} {N k idx : Nat} (hc0 : vwCl[k]? = some (C, T, N)) (hN : N = zNf k) (hk10 : k < 10) (hin : ∀ w ∈ u_ws C T N, w ∈ zTB) (hty : ∀ j, j < N → parseFieldDescriptor (T j).2.2.1 = some (zTy k j)) (hnf : ∀ j, j < N → zTy k j ≠ .float ∧ zTy k j ≠ .double) (hcl : Cond.classLink own idx C ∈ zTB) (hinst : Cond.instantiable C N ∈ zTB) (hinc : Cond.initialized C ∈ zTB) (hd : decode cc pc = .ok (.new idx, 3)) : zSnd G own cc nL ini pc (o_new (k + 1) N) := by
  intro ls st h pc' ls' st' h' he l p e R s m args below meth c D Q cx ad H locs cells slots lsr ok hS hc hs hR kk
  have cx0 := cx
  obtain ⟨hx, hb, hml, hown, hts, hK, hlk, hini, hcf, hB, ho⟩ := cx
  obtain ⟨rel, lr, ws⟩ := ok
  cases he
  have hKn := hK.1 k _ hc0
  refine W.newcK hx hb hown (hts _ hcl) (hts _ hinst) (hts _ hinc) rfl hd (by have : cells + (zC h + 1) ≤ R.cells + zC h := hc; omega) (by have : slots + (zS h + N) ≤ R.slots + zS h := hs; omega) hKn.2.1 rfl fun H1 kC hkC e1 z1 o1 => ?_
  have hx9 : ∀ a, a < zN h → va_up ad (zN h) H.size a = ad a := fun a ha => va_up_ne _ _ (by omega)
  have k2 := kk (va_up ad (zN h) H.size) H1 locs (cells + 1) (slots + N) lsr hx9 (Nat.le_succ _) ⟨zRel_new rel z1 o1 (by unfold zDy; omega) ?_, zLR_ext hx9 (Nat.le_succ _) lr, zw_c (Nat.lt_succ_self _) (fun v hv => zwf_mono (Nat.le_succ _) (ws v hv))⟩ ⟨Nat.le_trans hS.1 (by omega), fun x h1 h2 => (o1 x (Nat.lt_of_lt_of_le h1 hS.1)).trans (hS.2.1 x h1 h2), hS.2.2⟩ (by show cells + 1 + zC h = cells + (zC h + 1); omega) (by show slots + N + zS h = slots + (zS h + N); omega)
  · rw [List.map_cons, zst_congr hx9 ws, show zmv G.2.2.2.2 (va_up ad (zN h) H.size) (.ref (zN h)) = .ref H.size from congrArg Value.ref (va_up_self _ _ _)] at k2
    exact k2
  · refine ⟨fun h1 h2 => ?_, fun h1 => ?_, fun h1 => ?_, fun h1 h2 => ?_⟩
    · have ht0 : zT (zNew h (k + 1) 0 N) (zN h) = k + 1 := if_pos rfl
      rw [ht0, va_up_self]
      show va_at D vwCl (H.size, .inr (k, zFs _ _ k (zN h))) H1
      refine ⟨_, hc0, (u_born (zTy k) hts hin hKn hkC e1 hty).to (fun j hj => ?_)⟩
      unfold vp_V
      rw [List.getD_eq_getElem?_getD, zFs_at (by omega)]
      exact (zFv_new (hnf j hj)).symm
    · have h8 := zIsX_rng h1
      have ht0 : zT (zNew h (k + 1) 0 N) (zN h) = k + 1 := if_pos rfl
      omega
    · have ht0 : zT (zNew h (k + 1) 0 N) (zN h) = k + 1 := if_pos rfl
      omega
    · have ht0 : zT (zNew h (k + 1) 0 N) (zN h) = k + 1 := if_pos rfl
      omega

theorem zs_newa_int {G : zG} {own : String} {cc : ByteArray} {nL : Nat} {ini : Bool} {pc : Nat} (harr : Cond.arrayClass .int ∈ zTB) (hd : decode cc pc = .ok (.newarray .int, 2)) : zSnd G own cc nL ini pc (o_newa 20 2) := by
  intro ls st h pc' ls' st' h' he l p e R s m args below meth c D Q cx ad H locs cells slots lsr ok hS hc hs hR kk
  have cx0 := cx
  obtain ⟨hx, hb, hml, hown, hts, hK, hlk, hini, hcf, hB, ho⟩ := cx
  obtain ⟨rel, lr, ws⟩ := ok
  unfold o_newa at he
  split at he
  · rename_i x r
    split at he
    · rename_i hcond
      cases he
      refine va_newaK (atype := .int) hx hb (hts _ harr) rfl hd rfl hcond.1 rfl (by show x.toNatClampNeg * 4 ≤ _; omega) (by have : cells + (zC h + 1) ≤ R.cells + zC h := hc; omega) (by have : slots + (zS h + x.toNatClampNeg) ≤ R.slots + zS h := hs; omega) rfl fun H1 cA e1 z1 o1 hAr hNm => ?_
      have hx9 : ∀ a, a < zN h → va_up ad (zN h) H.size a = ad a := fun a ha => va_up_ne _ _ (by omega)
      have k2 := kk (va_up ad (zN h) H.size) H1 locs (cells + 1) (slots + x.toNatClampNeg) lsr hx9 (Nat.le_succ _) ⟨zRel_new rel z1 o1 (by unfold zDy; omega) ?_, zLR_ext hx9 (Nat.le_succ _) lr, zw_c (Nat.lt_succ_self _) (fun v hv => zwf_mono (Nat.le_succ _) (zw_t ws v hv))⟩ ⟨Nat.le_trans hS.1 (by omega), fun x h1 h2 => (o1 x (Nat.lt_of_lt_of_le h1 hS.1)).trans (hS.2.1 x h1 h2), hS.2.2⟩ (by show cells + 1 + zC h = cells + (zC h + 1); omega) (by show slots + x.toNatClampNeg + zS h = slots + (zS h + x.toNatClampNeg); omega)
      · rw [List.map_cons, zst_congr hx9 (zw_t ws), show zmv G.2.2.2.2 (va_up ad (zN h) H.size) (.ref (zN h)) = .ref H.size from congrArg Value.ref (va_up_self _ _ _)] at k2
        exact k2
      · have ht0 : zT (zNew h 20 x.toNatClampNeg x.toNatClampNeg) (zN h) = 20 := if_pos rfl
        refine ⟨fun h1 h2 => by omega, fun h1 => ⟨cA, ?_, by rw [ht0]; exact hAr, by rw [ht0]; exact hNm⟩, fun h1 => by omega, fun h1 h2 => by omega⟩
        have hE0 : zE (zNew h 20 x.toNatClampNeg x.toNatClampNeg) (zN h) = x.toNatClampNeg := if_pos rfl
        have hI0 : zI (zNew h 20 x.toNatClampNeg x.toNatClampNeg) 0 (zN h) = fun _ => 0 := funext fun i => if_pos rfl
        rw [hE0, hI0, va_up_self]
        exact e1
    · cases he
  · cases he

theorem zs_newa_char {G : zG} {own : String} {cc : ByteArray} {nL : Nat} {ini : Bool} {pc : Nat} (harr : Cond.arrayClass .char ∈ zTB) (hd : decode cc pc = .ok (.newarray .char, 2)) : zSnd G own cc nL ini pc (o_newa 22 2) := by
  intro ls st h pc' ls' st' h' he l p e R s m args below meth c D Q cx ad H locs cells slots lsr ok hS hc hs hR kk
  have cx0 := cx
  obtain ⟨hx, hb, hml, hown, hts, hK, hlk, hini, hcf, hB, ho⟩ := cx
  obtain ⟨rel, lr, ws⟩ := ok
  unfold o_newa at he
  split at he
  · rename_i x r
    split at he
    · rename_i hcond
      cases he
      refine va_newaK (atype := .char) hx hb (hts _ harr) rfl hd rfl hcond.1 rfl (by show x.toNatClampNeg * 2 ≤ _; omega) (by have : cells + (zC h + 1) ≤ R.cells + zC h := hc; omega) (by have : slots + (zS h + x.toNatClampNeg) ≤ R.slots + zS h := hs; omega) rfl fun H1 cA e1 z1 o1 hAr hNm => ?_
      have hx9 : ∀ a, a < zN h → va_up ad (zN h) H.size a = ad a := fun a ha => va_up_ne _ _ (by omega)
      have k2 := kk (va_up ad (zN h) H.size) H1 locs (cells + 1) (slots + x.toNatClampNeg) lsr hx9 (Nat.le_succ _) ⟨zRel_new rel z1 o1 (by unfold zDy; omega) ?_, zLR_ext hx9 (Nat.le_succ _) lr, zw_c (Nat.lt_succ_self _) (fun v hv => zwf_mono (Nat.le_succ _) (zw_t ws v hv))⟩ ⟨Nat.le_trans hS.1 (by omega), fun x h1 h2 => (o1 x (Nat.lt_of_lt_of_le h1 hS.1)).trans (hS.2.1 x h1 h2), hS.2.2⟩ (by show cells + 1 + zC h = cells + (zC h + 1); omega) (by show slots + x.toNatClampNeg + zS h = slots + (zS h + x.toNatClampNeg); omega)
      · rw [List.map_cons, zst_congr hx9 (zw_t ws), show zmv G.2.2.2.2 (va_up ad (zN h) H.size) (.ref (zN h)) = .ref H.size from congrArg Value.ref (va_up_self _ _ _)] at k2
        exact k2
      · have ht0 : zT (zNew h 22 x.toNatClampNeg x.toNatClampNeg) (zN h) = 22 := if_pos rfl
        refine ⟨fun h1 h2 => by omega, fun h1 => ⟨cA, ?_, by rw [ht0]; exact hAr, by rw [ht0]; exact hNm⟩, fun h1 => by omega, fun h1 h2 => by omega⟩
        have hE0 : zE (zNew h 22 x.toNatClampNeg x.toNatClampNeg) (zN h) = x.toNatClampNeg := if_pos rfl
        have hI0 : zI (zNew h 22 x.toNatClampNeg x.toNatClampNeg) 0 (zN h) = fun _ => 0 := funext fun i => if_pos rfl
        rw [hE0, hI0, va_up_self]
        exact e1
    · cases he
  · cases he

theorem zs_newa_boolean {G : zG} {own : String} {cc : ByteArray} {nL : Nat} {ini : Bool} {pc : Nat} (harr : Cond.arrayClass .boolean ∈ zTB) (hd : decode cc pc = .ok (.newarray .boolean, 2)) : zSnd G own cc nL ini pc (o_newa 23 2) := by
  intro ls st h pc' ls' st' h' he l p e R s m args below meth c D Q cx ad H locs cells slots lsr ok hS hc hs hR kk
  have cx0 := cx
  obtain ⟨hx, hb, hml, hown, hts, hK, hlk, hini, hcf, hB, ho⟩ := cx
  obtain ⟨rel, lr, ws⟩ := ok
  unfold o_newa at he
  split at he
  · rename_i x r
    split at he
    · rename_i hcond
      cases he
      refine va_newaK (atype := .boolean) hx hb (hts _ harr) rfl hd rfl hcond.1 rfl (by show x.toNatClampNeg * 1 ≤ _; omega) (by have : cells + (zC h + 1) ≤ R.cells + zC h := hc; omega) (by have : slots + (zS h + x.toNatClampNeg) ≤ R.slots + zS h := hs; omega) rfl fun H1 cA e1 z1 o1 hAr hNm => ?_
      have hx9 : ∀ a, a < zN h → va_up ad (zN h) H.size a = ad a := fun a ha => va_up_ne _ _ (by omega)
      have k2 := kk (va_up ad (zN h) H.size) H1 locs (cells + 1) (slots + x.toNatClampNeg) lsr hx9 (Nat.le_succ _) ⟨zRel_new rel z1 o1 (by unfold zDy; omega) ?_, zLR_ext hx9 (Nat.le_succ _) lr, zw_c (Nat.lt_succ_self _) (fun v hv => zwf_mono (Nat.le_succ _) (zw_t ws v hv))⟩ ⟨Nat.le_trans hS.1 (by omega), fun x h1 h2 => (o1 x (Nat.lt_of_lt_of_le h1 hS.1)).trans (hS.2.1 x h1 h2), hS.2.2⟩ (by show cells + 1 + zC h = cells + (zC h + 1); omega) (by show slots + x.toNatClampNeg + zS h = slots + (zS h + x.toNatClampNeg); omega)
      · rw [List.map_cons, zst_congr hx9 (zw_t ws), show zmv G.2.2.2.2 (va_up ad (zN h) H.size) (.ref (zN h)) = .ref H.size from congrArg Value.ref (va_up_self _ _ _)] at k2
        exact k2
      · have ht0 : zT (zNew h 23 x.toNatClampNeg x.toNatClampNeg) (zN h) = 23 := if_pos rfl
        refine ⟨fun h1 h2 => by omega, fun h1 => ⟨cA, ?_, by rw [ht0]; exact hAr, by rw [ht0]; exact hNm⟩, fun h1 => by omega, fun h1 h2 => by omega⟩
        have hE0 : zE (zNew h 23 x.toNatClampNeg x.toNatClampNeg) (zN h) = x.toNatClampNeg := if_pos rfl
        have hI0 : zI (zNew h 23 x.toNatClampNeg x.toNatClampNeg) 0 (zN h) = fun _ => 0 := funext fun i => if_pos rfl
        rw [hE0, hI0, va_up_self]
        exact e1
    · cases he
  · cases he

theorem zs_newa_byte {G : zG} {own : String} {cc : ByteArray} {nL : Nat} {ini : Bool} {pc : Nat} (harr : Cond.arrayClass .byte ∈ zTB) (hd : decode cc pc = .ok (.newarray .byte, 2)) : zSnd G own cc nL ini pc (o_newa 24 2) := by
  intro ls st h pc' ls' st' h' he l p e R s m args below meth c D Q cx ad H locs cells slots lsr ok hS hc hs hR kk
  have cx0 := cx
  obtain ⟨hx, hb, hml, hown, hts, hK, hlk, hini, hcf, hB, ho⟩ := cx
  obtain ⟨rel, lr, ws⟩ := ok
  unfold o_newa at he
  split at he
  · rename_i x r
    split at he
    · rename_i hcond
      cases he
      refine va_newaK (atype := .byte) hx hb (hts _ harr) rfl hd rfl hcond.1 rfl (by show x.toNatClampNeg * 1 ≤ _; omega) (by have : cells + (zC h + 1) ≤ R.cells + zC h := hc; omega) (by have : slots + (zS h + x.toNatClampNeg) ≤ R.slots + zS h := hs; omega) rfl fun H1 cA e1 z1 o1 hAr hNm => ?_
      have hx9 : ∀ a, a < zN h → va_up ad (zN h) H.size a = ad a := fun a ha => va_up_ne _ _ (by omega)
      have k2 := kk (va_up ad (zN h) H.size) H1 locs (cells + 1) (slots + x.toNatClampNeg) lsr hx9 (Nat.le_succ _) ⟨zRel_new rel z1 o1 (by unfold zDy; omega) ?_, zLR_ext hx9 (Nat.le_succ _) lr, zw_c (Nat.lt_succ_self _) (fun v hv => zwf_mono (Nat.le_succ _) (zw_t ws v hv))⟩ ⟨Nat.le_trans hS.1 (by omega), fun x h1 h2 => (o1 x (Nat.lt_of_lt_of_le h1 hS.1)).trans (hS.2.1 x h1 h2), hS.2.2⟩ (by show cells + 1 + zC h = cells + (zC h + 1); omega) (by show slots + x.toNatClampNeg + zS h = slots + (zS h + x.toNatClampNeg); omega)
      · rw [List.map_cons, zst_congr hx9 (zw_t ws), show zmv G.2.2.2.2 (va_up ad (zN h) H.size) (.ref (zN h)) = .ref H.size from congrArg Value.ref (va_up_self _ _ _)] at k2
        exact k2
      · have ht0 : zT (zNew h 24 x.toNatClampNeg x.toNatClampNeg) (zN h) = 24 := if_pos rfl
        refine ⟨fun h1 h2 => by omega, fun h1 => ⟨cA, ?_, by rw [ht0]; exact hAr, by rw [ht0]; exact hNm⟩, fun h1 => by omega, fun h1 h2 => by omega⟩
        have hE0 : zE (zNew h 24 x.toNatClampNeg x.toNatClampNeg) (zN h) = x.toNatClampNeg := if_pos rfl
        have hI0 : zI (zNew h 24 x.toNatClampNeg x.toNatClampNeg) 0 (zN h) = fun _ => 0 := funext fun i => if_pos rfl
        rw [hE0, hI0, va_up_self]
        exact e1
    · cases he
  · cases he

theorem zs_newa_long {G : zG} {own : String} {cc : ByteArray} {nL : Nat} {ini : Bool} {pc : Nat} (harr : Cond.arrayClass .long ∈ zTB) (hd : decode cc pc = .ok (.newarray .long, 2)) : zSnd G own cc nL ini pc (o_newa 21 2) := by
  intro ls st h pc' ls' st' h' he l p e R s m args below meth c D Q cx ad H locs cells slots lsr ok hS hc hs hR kk
  have cx0 := cx
  obtain ⟨hx, hb, hml, hown, hts, hK, hlk, hini, hcf, hB, ho⟩ := cx
  obtain ⟨rel, lr, ws⟩ := ok
  unfold o_newa at he
  split at he
  · rename_i x r
    split at he
    · rename_i hcond
      cases he
      refine va_newaK (atype := .long) hx hb (hts _ harr) rfl hd rfl hcond.1 rfl (by show x.toNatClampNeg * 8 ≤ _; omega) (by have : cells + (zC h + 1) ≤ R.cells + zC h := hc; omega) (by have : slots + (zS h + x.toNatClampNeg) ≤ R.slots + zS h := hs; omega) rfl fun H1 cA e1 z1 o1 hAr hNm => ?_
      have hx9 : ∀ a, a < zN h → va_up ad (zN h) H.size a = ad a := fun a ha => va_up_ne _ _ (by omega)
      have k2 := kk (va_up ad (zN h) H.size) H1 locs (cells + 1) (slots + x.toNatClampNeg) lsr hx9 (Nat.le_succ _) ⟨zRel_new rel z1 o1 (by unfold zDy; omega) ?_, zLR_ext hx9 (Nat.le_succ _) lr, zw_c (Nat.lt_succ_self _) (fun v hv => zwf_mono (Nat.le_succ _) (zw_t ws v hv))⟩ ⟨Nat.le_trans hS.1 (by omega), fun x h1 h2 => (o1 x (Nat.lt_of_lt_of_le h1 hS.1)).trans (hS.2.1 x h1 h2), hS.2.2⟩ (by show cells + 1 + zC h = cells + (zC h + 1); omega) (by show slots + x.toNatClampNeg + zS h = slots + (zS h + x.toNatClampNeg); omega)
      · rw [List.map_cons, zst_congr hx9 (zw_t ws), show zmv G.2.2.2.2 (va_up ad (zN h) H.size) (.ref (zN h)) = .ref H.size from congrArg Value.ref (va_up_self _ _ _)] at k2
        exact k2
      · have ht0 : zT (zNew h 21 x.toNatClampNeg x.toNatClampNeg) (zN h) = 21 := if_pos rfl
        refine ⟨fun h1 h2 => by omega, fun h1 => by unfold zIsX at h1; omega, fun h1 => ⟨cA, ?_, hAr, hNm⟩, fun h1 h2 => by omega⟩
        have hE0 : zE (zNew h 21 x.toNatClampNeg x.toNatClampNeg) (zN h) = x.toNatClampNeg := if_pos rfl
        have hI0 : zL (zNew h 21 x.toNatClampNeg x.toNatClampNeg) 0 (zN h) = fun _ => 0 := funext fun i => if_pos rfl
        rw [hE0, hI0, va_up_self]
        exact e1
    · cases he
  · cases he

theorem zs_newq {G : zG} {own : String} {cc : ByteArray} {nL : Nat} {ini : Bool} {pc : Nat} {t idx : Nat} (h31 : 31 ≤ t) (h33 : t ≤ 33) (hao : ∀ u : State, G.1 u → va_AO (zAn t) u) (hcl : Cond.classLink own idx (zAn t) ∈ zTB) (hd : decode cc pc = .ok (.anewarray idx, 3)) : zSnd G own cc nL ini pc (o_newa t 3) := by
  intro ls st h pc' ls' st' h' he l p e R s m args below meth c D Q cx ad H locs cells slots lsr ok hS hc hs hR kk
  have cx0 := cx
  obtain ⟨hx, hb, hml, hown, hts, hK, hlk, hini, hcf, hB, ho⟩ := cx
  obtain ⟨rel, lr, ws⟩ := ok
  unfold o_newa at he
  split at he
  · rename_i x r
    split at he
    · rename_i hcond
      cases he
      refine W.anew hx hb hown (hts _ hcl) (va_AO.use (hao s hcf)) rfl hd rfl hcond.1 (by omega) (by have : cells + (zC h + 1) ≤ R.cells + zC h := hc; omega) (by have : slots + (zS h + x.toNatClampNeg) ≤ R.slots + zS h := hs; omega) fun cA kA comp f1 f2 f3 f4 => ?_
      generalize hH1 : H.push ({ cls := cA, slots := Array.replicate x.toNatClampNeg .null, vm := .none } : Cell) = H1
      have z1 : H1.size = H.size + 1 := by rw [← hH1, Array.size_push]
      have e1 : H1[H.size]? = some (arrV cA x.toNatClampNeg (fun _ => .null)) := by rw [← hH1, Array.getElem?_push_size, ← arrV_new]
      have o1 : ∀ q : Nat, q < H.size → H1[q]? = H[q]? := fun q hq => by rw [← hH1, Array.getElem?_push, if_neg (Nat.ne_of_lt hq)]
      have hAr : ArrOfT s cA (.object (zAn t)) := fun N z => ⟨(fun k h => by cases h), kA, f2, comp, f3⟩
      have hx9 : ∀ a, a < zN h → va_up ad (zN h) H.size a = ad a := fun a ha => va_up_ne _ _ (by omega)
      have k2 := kk (va_up ad (zN h) H.size) H1 locs (cells + 1) (slots + x.toNatClampNeg) lsr hx9 (Nat.le_succ _) ⟨zRel_new rel z1 o1 (by unfold zDy; omega) ?_, zLR_ext hx9 (Nat.le_succ _) lr, zw_c (Nat.lt_succ_self _) (fun v hv => zwf_mono (Nat.le_succ _) (zw_t ws v hv))⟩ ⟨Nat.le_trans hS.1 (by omega), fun x h1 h2 => (o1 x (Nat.lt_of_lt_of_le h1 hS.1)).trans (hS.2.1 x h1 h2), hS.2.2⟩ (by show cells + 1 + zC h = cells + (zC h + 1); omega) (by show slots + x.toNatClampNeg + zS h = slots + (zS h + x.toNatClampNeg); omega)
      · rw [List.map_cons, zst_congr hx9 (zw_t ws), show zmv G.2.2.2.2 (va_up ad (zN h) H.size) (.ref (zN h)) = .ref H.size from congrArg Value.ref (va_up_self _ _ _)] at k2
        exact k2
      · have ht0 : zT (zNew h t x.toNatClampNeg x.toNatClampNeg) (zN h) = t := if_pos rfl
        refine ⟨fun h1 h2 => by omega, fun h1 => by unfold zIsX at h1; omega, fun h1 => by omega, fun h1 h2 => ⟨cA, ?_, by rw [ht0]; exact hAr, by rw [ht0]; exact ⟨kA, comp, f2, f3, f4, f1⟩⟩⟩
        have hE0 : zE (zNew h t x.toNatClampNeg x.toNatClampNeg) (zN h) = x.toNatClampNeg := if_pos rfl
        have hI0 : (fun i => (zR (zNew h t x.toNatClampNeg x.toNatClampNeg) 0 (zN h) i).map (va_up ad (zN h) H.size)) = fun _ => none := funext fun i => by
          have h8 : zR (zNew h t x.toNatClampNeg x.toNatClampNeg) 0 (zN h) i = none := if_pos rfl
          rw [h8]; rfl
        rw [hE0, hI0, va_up_self]
        exact e1
    · cases he
  · cases he

theorem zcat_sum (st : List Value) : (st.map fun v => v.category).sum ≤ 2 * st.length := by
  induction st with
  | nil => exact Nat.le_refl _
  | cons v st ih =>
    rw [List.map_cons, List.sum_cons, List.length_cons]
    have : v.category ≤ 2 := by rcases lv_cat v with h | h <;> omega
    omega

theorem zs_oini {G : zG} {own : String} {cc : ByteArray} {nL : Nat} {ini : Bool} {pc : Nat} {idx : Nat} (hl1 : Cond.methodLink own idx Lib.objectInit ∈ zTB) (hl2 : Cond.instanceMethod Lib.objectInit ∈ zTB) (hl3 : Cond.code Lib.objectInit ⟨#[0xb1]⟩ 1 none ∈ zTB) (hd : decode cc pc = .ok (.invokespecial idx, 3)) : zSnd G own cc nL ini pc (o_oini) := by
  intro ls st h pc' ls' st' h' he l p e R s m args below meth c D Q cx ad H locs cells slots lsr ok hS hc hs hR kk
  have cx0 := cx
  obtain ⟨hx, hb, hml, hown, hts, hK, hlk, hini, hcf, hB, ho⟩ := cx
  obtain ⟨rel, lr, ws⟩ := ok
  unfold o_oini at he
  split at he
  · rename_i a r
    split at he
    · rename_i hcond
      cases he
      have h4 := Nat.le_of_ble_eq_true hcond
      refine W.objInit hx hb hown (hts _ hl1) (hts _ hl2) (hts _ hl3) rfl (by rw [hml]; exact lr.1.1) rfl hd (by omega) ?_ (kk ad H locs cells slots lsr (fun _ _ => rfl) (Nat.le_refl _) ⟨rel, lr, zw_t ws⟩ hS rfl rfl)
      have h5 := zcat_sum (st'.map (zmv G.2.2.2.2 ad))
      rw [List.length_map] at h5
      show 2 * 0 + _ + 12 ≤ _
      omega
    · cases he
  · cases he

/-- an operation that goes on, and lets no counter fall -/
def zGoK (op : zOp) : Prop := ∀ pc ls st h a, op pc ls st h = some a → ∃ g : zGo, a = .inl g ∧ zC h ≤ zC g.2.2.2 ∧ zS h ≤ zS g.2.2.2 ∧ zN h ≤ zN g.2.2.2

theorem gk_push (v : Value) (n : Nat) : zGoK (o_push v n) := by
  intro pc ls st h a he
  unfold o_push at he
  repeat' split at he
  all_goals first
    | (cases he; done)
    | (cases he; exact ⟨_, rfl, Nat.le_refl _, Nat.le_refl _, Nat.le_refl _⟩)
    | (cases he; exact ⟨_, rfl, Nat.le_succ _, Nat.le_add_right _ _, Nat.le_succ _⟩)

theorem gk_iload (i n : Nat) : zGoK (o_iload i n) := by
  intro pc ls st h a he
  unfold o_iload at he
  repeat' split at he
  all_goals first
    | (cases he; done)
    | (cases he; exact ⟨_, rfl, Nat.le_refl _, Nat.le_refl _, Nat.le_refl _⟩)
    | (cases he; exact ⟨_, rfl, Nat.le_succ _, Nat.le_add_right _ _, Nat.le_succ _⟩)

theorem gk_lload (i n : Nat) : zGoK (o_lload i n) := by
  intro pc ls st h a he
  unfold o_lload at he
  repeat' split at he
  all_goals first
    | (cases he; done)
    | (cases he; exact ⟨_, rfl, Nat.le_refl _, Nat.le_refl _, Nat.le_refl _⟩)
    | (cases he; exact ⟨_, rfl, Nat.le_succ _, Nat.le_add_right _ _, Nat.le_succ _⟩)

theorem gk_aload (i n : Nat) : zGoK (o_aload i n) := by
  intro pc ls st h a he
  unfold o_aload at he
  repeat' split at he
  all_goals first
    | (cases he; done)
    | (cases he; exact ⟨_, rfl, Nat.le_refl _, Nat.le_refl _, Nat.le_refl _⟩)
    | (cases he; exact ⟨_, rfl, Nat.le_succ _, Nat.le_add_right _ _, Nat.le_succ _⟩)

theorem gk_istore (i n : Nat) : zGoK (o_istore i n) := by
  intro pc ls st h a he
  unfold o_istore at he
  repeat' split at he
  all_goals first
    | (cases he; done)
    | (cases he; exact ⟨_, rfl, Nat.le_refl _, Nat.le_refl _, Nat.le_refl _⟩)
    | (cases he; exact ⟨_, rfl, Nat.le_succ _, Nat.le_add_right _ _, Nat.le_succ _⟩)

theorem gk_lstore (i n : Nat) : zGoK (o_lstore i n) := by
  intro pc ls st h a he
  unfold o_lstore at he
  repeat' split at he
  all_goals first
    | (cases he; done)
    | (cases he; exact ⟨_, rfl, Nat.le_refl _, Nat.le_refl _, Nat.le_refl _⟩)
    | (cases he; exact ⟨_, rfl, Nat.le_succ _, Nat.le_add_right _ _, Nat.le_succ _⟩)

theorem gk_astore (i n : Nat) : zGoK (o_astore i n) := by
  intro pc ls st h a he
  unfold o_astore at he
  repeat' split at he
  all_goals first
    | (cases he; done)
    | (cases he; exact ⟨_, rfl, Nat.le_refl _, Nat.le_refl _, Nat.le_refl _⟩)
    | (cases he; exact ⟨_, rfl, Nat.le_succ _, Nat.le_add_right _ _, Nat.le_succ _⟩)

theorem gk_iinc (i : Nat) (k : Int32) : zGoK (o_iinc i k) := by
  intro pc ls st h a he
  unfold o_iinc at he
  repeat' split at he
  all_goals first
    | (cases he; done)
    | (cases he; exact ⟨_, rfl, Nat.le_refl _, Nat.le_refl _, Nat.le_refl _⟩)
    | (cases he; exact ⟨_, rfl, Nat.le_succ _, Nat.le_add_right _ _, Nat.le_succ _⟩)

theorem gk_iop (f : Int32 → Int32 → Int32) : zGoK (o_iop f) := by
  intro pc ls st h a he
  unfold o_iop at he
  repeat' split at he
  all_goals first
    | (cases he; done)
    | (cases he; exact ⟨_, rfl, Nat.le_refl _, Nat.le_refl _, Nat.le_refl _⟩)
    | (cases he; exact ⟨_, rfl, Nat.le_succ _, Nat.le_add_right _ _, Nat.le_succ _⟩)

theorem gk_lop (f : Int64 → Int64 → Int64) : zGoK (o_lop f) := by
  intro pc ls st h a he
  unfold o_lop at he
  repeat' split at he
  all_goals first
    | (cases he; done)
    | (cases he; exact ⟨_, rfl, Nat.le_refl _, Nat.le_refl _, Nat.le_refl _⟩)
    | (cases he; exact ⟨_, rfl, Nat.le_succ _, Nat.le_add_right _ _, Nat.le_succ _⟩)

theorem gk_dop (f : Int32 → Int32 → Int32) : zGoK (o_dop f) := by
  intro pc ls st h a he
  unfold o_dop at he
  repeat' split at he
  all_goals first
    | (cases he; done)
    | (cases he; exact ⟨_, rfl, Nat.le_refl _, Nat.le_refl _, Nat.le_refl _⟩)
    | (cases he; exact ⟨_, rfl, Nat.le_succ _, Nat.le_add_right _ _, Nat.le_succ _⟩)

theorem gk_sop (f : Int64 → Int32 → Int64) : zGoK (o_sop f) := by
  intro pc ls st h a he
  unfold o_sop at he
  repeat' split at he
  all_goals first
    | (cases he; done)
    | (cases he; exact ⟨_, rfl, Nat.le_refl _, Nat.le_refl _, Nat.le_refl _⟩)
    | (cases he; exact ⟨_, rfl, Nat.le_succ _, Nat.le_add_right _ _, Nat.le_succ _⟩)

theorem gk_iun (f : Int32 → Int32) : zGoK (o_iun f) := by
  intro pc ls st h a he
  unfold o_iun at he
  repeat' split at he
  all_goals first
    | (cases he; done)
    | (cases he; exact ⟨_, rfl, Nat.le_refl _, Nat.le_refl _, Nat.le_refl _⟩)
    | (cases he; exact ⟨_, rfl, Nat.le_succ _, Nat.le_add_right _ _, Nat.le_succ _⟩)

theorem gk_i2l  : zGoK (o_i2l ) := by
  intro pc ls st h a he
  unfold o_i2l at he
  repeat' split at he
  all_goals first
    | (cases he; done)
    | (cases he; exact ⟨_, rfl, Nat.le_refl _, Nat.le_refl _, Nat.le_refl _⟩)
    | (cases he; exact ⟨_, rfl, Nat.le_succ _, Nat.le_add_right _ _, Nat.le_succ _⟩)

theorem gk_l2i  : zGoK (o_l2i ) := by
  intro pc ls st h a he
  unfold o_l2i at he
  repeat' split at he
  all_goals first
    | (cases he; done)
    | (cases he; exact ⟨_, rfl, Nat.le_refl _, Nat.le_refl _, Nat.le_refl _⟩)
    | (cases he; exact ⟨_, rfl, Nat.le_succ _, Nat.le_add_right _ _, Nat.le_succ _⟩)

theorem gk_lcmp  : zGoK (o_lcmp ) := by
  intro pc ls st h a he
  unfold o_lcmp at he
  repeat' split at he
  all_goals first
    | (cases he; done)
    | (cases he; exact ⟨_, rfl, Nat.le_refl _, Nat.le_refl _, Nat.le_refl _⟩)
    | (cases he; exact ⟨_, rfl, Nat.le_succ _, Nat.le_add_right _ _, Nat.le_succ _⟩)

theorem gk_ifeq (t : Nat) : zGoK (o_ifeq t) := by
  intro pc ls st h a he
  unfold o_ifeq at he
  repeat' split at he
  all_goals first
    | (cases he; done)
    | (cases he; exact ⟨_, rfl, Nat.le_refl _, Nat.le_refl _, Nat.le_refl _⟩)
    | (cases he; exact ⟨_, rfl, Nat.le_succ _, Nat.le_add_right _ _, Nat.le_succ _⟩)

theorem gk_ifne (t : Nat) : zGoK (o_ifne t) := by
  intro pc ls st h a he
  unfold o_ifne at he
  repeat' split at he
  all_goals first
    | (cases he; done)
    | (cases he; exact ⟨_, rfl, Nat.le_refl _, Nat.le_refl _, Nat.le_refl _⟩)
    | (cases he; exact ⟨_, rfl, Nat.le_succ _, Nat.le_add_right _ _, Nat.le_succ _⟩)

theorem gk_iflt (t : Nat) : zGoK (o_iflt t) := by
  intro pc ls st h a he
  unfold o_iflt at he
  repeat' split at he
  all_goals first
    | (cases he; done)
    | (cases he; exact ⟨_, rfl, Nat.le_refl _, Nat.le_refl _, Nat.le_refl _⟩)
    | (cases he; exact ⟨_, rfl, Nat.le_succ _, Nat.le_add_right _ _, Nat.le_succ _⟩)

theorem gk_ifge (t : Nat) : zGoK (o_ifge t) := by
  intro pc ls st h a he
  unfold o_ifge at he
  repeat' split at he
  all_goals first
    | (cases he; done)
    | (cases he; exact ⟨_, rfl, Nat.le_refl _, Nat.le_refl _, Nat.le_refl _⟩)
    | (cases he; exact ⟨_, rfl, Nat.le_succ _, Nat.le_add_right _ _, Nat.le_succ _⟩)

theorem gk_ifgt (t : Nat) : zGoK (o_ifgt t) := by
  intro pc ls st h a he
  unfold o_ifgt at he
  repeat' split at he
  all_goals first
    | (cases he; done)
    | (cases he; exact ⟨_, rfl, Nat.le_refl _, Nat.le_refl _, Nat.le_refl _⟩)
    | (cases he; exact ⟨_, rfl, Nat.le_succ _, Nat.le_add_right _ _, Nat.le_succ _⟩)

theorem gk_ifle (t : Nat) : zGoK (o_ifle t) := by
  intro pc ls st h a he
  unfold o_ifle at he
  repeat' split at he
  all_goals first
    | (cases he; done)
    | (cases he; exact ⟨_, rfl, Nat.le_refl _, Nat.le_refl _, Nat.le_refl _⟩)
    | (cases he; exact ⟨_, rfl, Nat.le_succ _, Nat.le_add_right _ _, Nat.le_succ _⟩)

theorem gk_ifnull (t : Nat) : zGoK (o_ifnull t) := by
  intro pc ls st h a he
  unfold o_ifnull at he
  repeat' split at he
  all_goals first
    | (cases he; done)
    | (cases he; exact ⟨_, rfl, Nat.le_refl _, Nat.le_refl _, Nat.le_refl _⟩)
    | (cases he; exact ⟨_, rfl, Nat.le_succ _, Nat.le_add_right _ _, Nat.le_succ _⟩)

theorem gk_ifnon (t : Nat) : zGoK (o_ifnon t) := by
  intro pc ls st h a he
  unfold o_ifnon at he
  repeat' split at he
  all_goals first
    | (cases he; done)
    | (cases he; exact ⟨_, rfl, Nat.le_refl _, Nat.le_refl _, Nat.le_refl _⟩)
    | (cases he; exact ⟨_, rfl, Nat.le_succ _, Nat.le_add_right _ _, Nat.le_succ _⟩)

theorem gk_iceq (t : Nat) : zGoK (o_iceq t) := by
  intro pc ls st h a he
  unfold o_iceq at he
  repeat' split at he
  all_goals first
    | (cases he; done)
    | (cases he; exact ⟨_, rfl, Nat.le_refl _, Nat.le_refl _, Nat.le_refl _⟩)
    | (cases he; exact ⟨_, rfl, Nat.le_succ _, Nat.le_add_right _ _, Nat.le_succ _⟩)

theorem gk_icne (t : Nat) : zGoK (o_icne t) := by
  intro pc ls st h a he
  unfold o_icne at he
  repeat' split at he
  all_goals first
    | (cases he; done)
    | (cases he; exact ⟨_, rfl, Nat.le_refl _, Nat.le_refl _, Nat.le_refl _⟩)
    | (cases he; exact ⟨_, rfl, Nat.le_succ _, Nat.le_add_right _ _, Nat.le_succ _⟩)

theorem gk_iclt (t : Nat) : zGoK (o_iclt t) := by
  intro pc ls st h a he
  unfold o_iclt at he
  repeat' split at he
  all_goals first
    | (cases he; done)
    | (cases he; exact ⟨_, rfl, Nat.le_refl _, Nat.le_refl _, Nat.le_refl _⟩)
    | (cases he; exact ⟨_, rfl, Nat.le_succ _, Nat.le_add_right _ _, Nat.le_succ _⟩)

theorem gk_icge (t : Nat) : zGoK (o_icge t) := by
  intro pc ls st h a he
  unfold o_icge at he
  repeat' split at he
  all_goals first
    | (cases he; done)
    | (cases he; exact ⟨_, rfl, Nat.le_refl _, Nat.le_refl _, Nat.le_refl _⟩)
    | (cases he; exact ⟨_, rfl, Nat.le_succ _, Nat.le_add_right _ _, Nat.le_succ _⟩)

theorem gk_icgt (t : Nat) : zGoK (o_icgt t) := by
  intro pc ls st h a he
  unfold o_icgt at he
  repeat' split at he
  all_goals first
    | (cases he; done)
    | (cases he; exact ⟨_, rfl, Nat.le_refl _, Nat.le_refl _, Nat.le_refl _⟩)
    | (cases he; exact ⟨_, rfl, Nat.le_succ _, Nat.le_add_right _ _, Nat.le_succ _⟩)

theorem gk_icle (t : Nat) : zGoK (o_icle t) := by
  intro pc ls st h a he
  unfold o_icle at he
  repeat' split at he
  all_goals first
    | (cases he; done)
    | (cases he; exact ⟨_, rfl, Nat.le_refl _, Nat.le_refl _, Nat.le_refl _⟩)
    | (cases he; exact ⟨_, rfl, Nat.le_succ _, Nat.le_add_right _ _, Nat.le_succ _⟩)

theorem gk_acne (t : Nat) : zGoK (o_acne t) := by
  intro pc ls st h a he
  unfold o_acne at he
  repeat' split at he
  all_goals first
    | (cases he; done)
    | (cases he; exact ⟨_, rfl, Nat.le_refl _, Nat.le_refl _, Nat.le_refl _⟩)
    | (cases he; exact ⟨_, rfl, Nat.le_succ _, Nat.le_add_right _ _, Nat.le_succ _⟩)

theorem gk_goto (t : Nat) : zGoK (o_goto t) := by
  intro pc ls st h a he
  unfold o_goto at he
  repeat' split at he
  all_goals first
    | (cases he; done)
    | (cases he; exact ⟨_, rfl, Nat.le_refl _, Nat.le_refl _, Nat.le_refl _⟩)
    | (cases he; exact ⟨_, rfl, Nat.le_succ _, Nat.le_add_right _ _, Nat.le_succ _⟩)

theorem gk_tsw (lo hi : Int) (ts : List Nat) (d : Nat) : zGoK (o_tsw lo hi ts d) := by
  intro pc ls st h a he
  unfold o_tsw at he
  repeat' split at he
  all_goals first
    | (cases he; done)
    | (cases he; exact ⟨_, rfl, Nat.le_refl _, Nat.le_refl _, Nat.le_refl _⟩)
    | (cases he; exact ⟨_, rfl, Nat.le_succ _, Nat.le_add_right _ _, Nat.le_succ _⟩)

theorem gk_dup  : zGoK (o_dup ) := by
  intro pc ls st h a he
  unfold o_dup at he
  repeat' split at he
  all_goals first
    | (cases he; done)
    | (cases he; exact ⟨_, rfl, Nat.le_refl _, Nat.le_refl _, Nat.le_refl _⟩)
    | (cases he; exact ⟨_, rfl, Nat.le_succ _, Nat.le_add_right _ _, Nat.le_succ _⟩)

theorem gk_dup2  : zGoK (o_dup2 ) := by
  intro pc ls st h a he
  unfold o_dup2 at he
  repeat' split at he
  all_goals first
    | (cases he; done)
    | (cases he; exact ⟨_, rfl, Nat.le_refl _, Nat.le_refl _, Nat.le_refl _⟩)
    | (cases he; exact ⟨_, rfl, Nat.le_succ _, Nat.le_add_right _ _, Nat.le_succ _⟩)

theorem gk_pop  : zGoK (o_pop ) := by
  intro pc ls st h a he
  unfold o_pop at he
  repeat' split at he
  all_goals first
    | (cases he; done)
    | (cases he; exact ⟨_, rfl, Nat.le_refl _, Nat.le_refl _, Nat.le_refl _⟩)
    | (cases he; exact ⟨_, rfl, Nat.le_succ _, Nat.le_add_right _ _, Nat.le_succ _⟩)

theorem gk_gfI (t g : Nat) : zGoK (o_gfI t g) := by
  intro pc ls st h a he
  unfold o_gfI at he
  repeat' split at he
  all_goals first
    | (cases he; done)
    | (cases he; exact ⟨_, rfl, Nat.le_refl _, Nat.le_refl _, Nat.le_refl _⟩)
    | (cases he; exact ⟨_, rfl, Nat.le_succ _, Nat.le_add_right _ _, Nat.le_succ _⟩)

theorem gk_gfL (t g : Nat) : zGoK (o_gfL t g) := by
  intro pc ls st h a he
  unfold o_gfL at he
  repeat' split at he
  all_goals first
    | (cases he; done)
    | (cases he; exact ⟨_, rfl, Nat.le_refl _, Nat.le_refl _, Nat.le_refl _⟩)
    | (cases he; exact ⟨_, rfl, Nat.le_succ _, Nat.le_add_right _ _, Nat.le_succ _⟩)

theorem gk_gfR (t g : Nat) : zGoK (o_gfR t g) := by
  intro pc ls st h a he
  unfold o_gfR at he
  repeat' split at he
  all_goals first
    | (cases he; done)
    | (cases he; exact ⟨_, rfl, Nat.le_refl _, Nat.le_refl _, Nat.le_refl _⟩)
    | (cases he; exact ⟨_, rfl, Nat.le_succ _, Nat.le_add_right _ _, Nat.le_succ _⟩)

theorem gk_pfI (t g : Nat) (nr : Int32 → Int32) : zGoK (o_pfI t g nr) := by
  intro pc ls st h a he
  unfold o_pfI at he
  repeat' split at he
  all_goals first
    | (cases he; done)
    | (cases he; exact ⟨_, rfl, Nat.le_refl _, Nat.le_refl _, Nat.le_refl _⟩)
    | (cases he; exact ⟨_, rfl, Nat.le_succ _, Nat.le_add_right _ _, Nat.le_succ _⟩)

theorem gk_pfL (t g : Nat) : zGoK (o_pfL t g) := by
  intro pc ls st h a he
  unfold o_pfL at he
  repeat' split at he
  all_goals first
    | (cases he; done)
    | (cases he; exact ⟨_, rfl, Nat.le_refl _, Nat.le_refl _, Nat.le_refl _⟩)
    | (cases he; exact ⟨_, rfl, Nat.le_succ _, Nat.le_add_right _ _, Nat.le_succ _⟩)

theorem gk_pfR (t g : Nat) : zGoK (o_pfR t g) := by
  intro pc ls st h a he
  unfold o_pfR at he
  repeat' split at he
  all_goals first
    | (cases he; done)
    | (cases he; exact ⟨_, rfl, Nat.le_refl _, Nat.le_refl _, Nat.le_refl _⟩)
    | (cases he; exact ⟨_, rfl, Nat.le_succ _, Nat.le_add_right _ _, Nat.le_succ _⟩)

theorem gk_xald (t : Nat) : zGoK (o_xald t) := by
  intro pc ls st h a he
  unfold o_xald at he
  repeat' split at he
  all_goals first
    | (cases he; done)
    | (cases he; exact ⟨_, rfl, Nat.le_refl _, Nat.le_refl _, Nat.le_refl _⟩)
    | (cases he; exact ⟨_, rfl, Nat.le_succ _, Nat.le_add_right _ _, Nat.le_succ _⟩)

theorem gk_xast (t : Nat) (nr : Int32 → Int32) : zGoK (o_xast t nr) := by
  intro pc ls st h a he
  unfold o_xast at he
  repeat' split at he
  all_goals first
    | (cases he; done)
    | (cases he; exact ⟨_, rfl, Nat.le_refl _, Nat.le_refl _, Nat.le_refl _⟩)
    | (cases he; exact ⟨_, rfl, Nat.le_succ _, Nat.le_add_right _ _, Nat.le_succ _⟩)

theorem gk_lald  : zGoK (o_lald ) := by
  intro pc ls st h a he
  unfold o_lald at he
  repeat' split at he
  all_goals first
    | (cases he; done)
    | (cases he; exact ⟨_, rfl, Nat.le_refl _, Nat.le_refl _, Nat.le_refl _⟩)
    | (cases he; exact ⟨_, rfl, Nat.le_succ _, Nat.le_add_right _ _, Nat.le_succ _⟩)

theorem gk_last  : zGoK (o_last ) := by
  intro pc ls st h a he
  unfold o_last at he
  repeat' split at he
  all_goals first
    | (cases he; done)
    | (cases he; exact ⟨_, rfl, Nat.le_refl _, Nat.le_refl _, Nat.le_refl _⟩)
    | (cases he; exact ⟨_, rfl, Nat.le_succ _, Nat.le_add_right _ _, Nat.le_succ _⟩)

theorem gk_aald (t : Nat) : zGoK (o_aald t) := by
  intro pc ls st h a he
  unfold o_aald at he
  repeat' split at he
  all_goals first
    | (cases he; done)
    | (cases he; exact ⟨_, rfl, Nat.le_refl _, Nat.le_refl _, Nat.le_refl _⟩)
    | (cases he; exact ⟨_, rfl, Nat.le_succ _, Nat.le_add_right _ _, Nat.le_succ _⟩)

theorem gk_aast (t u : Nat) : zGoK (o_aast t u) := by
  intro pc ls st h a he
  unfold o_aast at he
  repeat' split at he
  all_goals first
    | (cases he; done)
    | (cases he; exact ⟨_, rfl, Nat.le_refl _, Nat.le_refl _, Nat.le_refl _⟩)
    | (cases he; exact ⟨_, rfl, Nat.le_succ _, Nat.le_add_right _ _, Nat.le_succ _⟩)

theorem gk_alen  : zGoK (o_alen ) := by
  intro pc ls st h a he
  unfold o_alen at he
  repeat' split at he
  all_goals first
    | (cases he; done)
    | (cases he; exact ⟨_, rfl, Nat.le_refl _, Nat.le_refl _, Nat.le_refl _⟩)
    | (cases he; exact ⟨_, rfl, Nat.le_succ _, Nat.le_add_right _ _, Nat.le_succ _⟩)

theorem gk_new (t k : Nat) : zGoK (o_new t k) := by
  intro pc ls st h a he
  unfold o_new at he
  repeat' split at he
  all_goals first
    | (cases he; done)
    | (cases he; exact ⟨_, rfl, Nat.le_refl _, Nat.le_refl _, Nat.le_refl _⟩)
    | (cases he; exact ⟨_, rfl, Nat.le_succ _, Nat.le_add_right _ _, Nat.le_succ _⟩)

theorem gk_newa (t n : Nat) : zGoK (o_newa t n) := by
  intro pc ls st h a he
  unfold o_newa at he
  repeat' split at he
  all_goals first
    | (cases he; done)
    | (cases he; exact ⟨_, rfl, Nat.le_refl _, Nat.le_refl _, Nat.le_refl _⟩)
    | (cases he; exact ⟨_, rfl, Nat.le_succ _, Nat.le_add_right _ _, Nat.le_succ _⟩)

theorem gk_oini  : zGoK (o_oini ) := by
  intro pc ls st h a he
  unfold o_oini at he
  repeat' split at he
  all_goals first
    | (cases he; done)
    | (cases he; exact ⟨_, rfl, Nat.le_refl _, Nat.le_refl _, Nat.le_refl _⟩)
    | (cases he; exact ⟨_, rfl, Nat.le_succ _, Nat.le_add_right _ _, Nat.le_succ _⟩)

theorem gk_none  : zGoK (o_none ) := by
  intro pc ls st h a he
  unfold o_none at he
  repeat' split at he
  all_goals first
    | (cases he; done)
    | (cases he; exact ⟨_, rfl, Nat.le_refl _, Nat.le_refl _, Nat.le_refl _⟩)
    | (cases he; exact ⟨_, rfl, Nat.le_succ _, Nat.le_add_right _ _, Nat.le_succ _⟩)
