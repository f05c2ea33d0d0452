/-! ===== the operations that touch the heap ===== -/
theorem zP1 {D : va_G} {cl : List vw_C} {q : Nat × va_E} {H : Heap} (h : va_at D cl q H) : va_P D cl [q] H := fun k x hk => by
  have hz : k < 1 := (List.getElem?_eq_some_iff.mp hk).1
  rw [show k = 0 by omega] at hk
  cases hk
  exact h
theorem zIsX_rng {t : Nat} (h : zIsX t) : 20 ≤ t ∧ t ≤ 24 ∧ t ≠ 21 := by
  rcases h with h | h | h | h <;> omega
theorem zcell_nd {D : va_G} {s : State} {ad : Nat → Nat} {h : zH} {H : Heap} {a : Nat} (hn : ¬ zDy (zT h a)) : zcell D s ad h H a := by
  unfold zDy at hn
  refine ⟨fun h1 h2 => absurd ⟨h1, by omega⟩ hn, fun h1 => ?_, fun h1 => absurd ⟨by omega, by omega⟩ hn, fun h1 h2 => absurd ⟨by omega, by omega⟩ hn⟩
  have := zIsX_rng h1
  exact absurd ⟨by omega, by omega⟩ hn
theorem zFv_congr {ad ad' : Nat → Nat} {h h' : zH} {k a : Nat} (hI : ∀ g i, zI h' g a i = zI h g a i) (hL : ∀ g i, zL h' g a i = zL h g a i) (hR : ∀ g i, (zR h' g a i).map ad' = (zR h g a i).map ad) (j : Nat) : zFv ad' h' k a j = zFv ad h k a j := by
  unfold zFv
  cases zTy k j <;> simp only [hI, hL, hR]
theorem zcell_congr {D : va_G} {s : State} {ad ad' : Nat → Nat} {h h' : zH} {H H' : Heap} {a : Nat} (hT : zT h' a = zT h a) (hE : zE h' a = zE h a) (hI : ∀ g i, zI h' g a i = zI h g a i) (hL : ∀ g i, zL h' g a i = zL h g a i) (hR : ∀ g i, (zR h' g a i).map ad' = (zR h g a i).map ad) (hd : ad' a = ad a) (hH : H'[ad a]? = H[ad a]?) (hc : zcell D s ad h H a) : zcell D s ad' h' H' a := by
  have e1 : zI h' 0 a = zI h 0 a := funext fun i => hI 0 i
  have e2 : zL h' 0 a = zL h 0 a := funext fun i => hL 0 i
  have e3 : (fun i => (zR h' 0 a i).map ad') = fun i => (zR h 0 a i).map ad := funext fun i => hR 0 i
  have e4 : ∀ k, zFs ad' h' k a = zFs ad h k a := fun k => by
    unfold zFs
    exact List.map_congr_left fun j _ => zFv_congr hI hL hR j
  unfold zcell
  rw [hT, hE, e1, e2, e3, e4, hd]
  exact ⟨fun h1 h2 => (hc.1 h1 h2).kept hH, fun h1 => (hc.2.1 h1).imp fun cA q => ⟨q.1.kept hH, q.2⟩, fun h1 => (hc.2.2.1 h1).imp fun cA q => ⟨q.1.kept hH, q.2⟩, fun h1 h2 => (hc.2.2.2 h1 h2).imp fun cA q => ⟨q.1.kept hH, q.2⟩⟩
/-- one cell of the picture is written -/
theorem zRel_put {G : zG} {D : va_G} {s : State} {ad : Nat → Nat} {h h' : zH} {H H' : Heap} {a : Nat} (rel : zRel G D s ad h H) (hz : H'.size = H.size) (oq : ∀ q : Nat, q ≠ ad a → H'[q]? = H[q]?) (hy : zDy (zT h a)) (hT : zT h' = zT h) (hE : zE h' = zE h) (hN : zN h' = zN h)
    (hI : ∀ g b i, b ≠ a → zI h' g b i = zI h g b i) (hL : ∀ g b i, b ≠ a → zL h' g b i = zL h g b i) (hR : ∀ g b i, b ≠ a → zR h' g b i = zR h g b i) (hw : ∀ g i b, zR h' g a i = some b → b < zN h) (hc : zcell D s ad h' H' a) : zRel G D s ad h' H' := by
  obtain ⟨r1, r2, r3, r4, r5, r6⟩ := rel
  refine ⟨by rw [hz]; exact r1, fun g b i c hb => ?_, fun b hb => ?_, fun b c hb hc2 => ?_, fun b => ?_, fun b hb => ?_⟩
  · rw [hN]
    by_cases e : b = a
    · subst e; exact hw g i c hb
    · rw [hR g b i e] at hb; exact r2 g b i c hb
  · rw [hT] at hb; rw [hN, hz]; exact r3 b hb
  · rw [hT] at hb hc2; exact r4 b c hb hc2
  · by_cases e : b = a
    · subst e; exact hc
    · by_cases hd : zDy (zT h b)
      · exact zcell_congr (by rw [hT]) (by rw [hE]) (fun g i => hI g b i e) (fun g i => hL g b i e) (fun g i => by rw [hR g b i e]) rfl (oq _ fun q => e (r4 b a hd hy q)) (r5 b)
      · exact zcell_nd (by rw [hT]; exact hd)
  · rw [hT] at hb; rw [hN, hT]; exact r6 b hb
theorem zFs_set {ad : Nat → Nat} {h h' : zH} {k a j : Nat} {v : Value} (hj : j < zNf k) (ho : ∀ i, i ≠ j → zFv ad h' k a i = zFv ad h k a i) (hv : zFv ad h' k a j = v) : zFs ad h' k a = (zFs ad h k a).set j v := by
  unfold zFs
  apply List.ext_getElem?
  intro i
  rw [List.getElem?_set, List.getElem?_map, List.getElem?_map]
  by_cases hi : i < zNf k
  · rw [List.getElem?_range hi]
    by_cases e : j = i
    · subst e
      rw [if_pos rfl, if_pos (by rw [List.length_map, List.length_range]; exact hj)]
      simp [hv]
    · rw [if_neg e]
      simp [ho i (fun q => e q.symm)]
  · rw [if_neg (by omega)]
    simp [hi]
theorem zFs_len (ad : Nat → Nat) (h : zH) (k a : Nat) : (zFs ad h k a).length = zNf k := by
  unfold zFs; rw [List.length_map, List.length_range]
theorem zFs_at {ad : Nat → Nat} {h : zH} {k a j : Nat} (hj : j < zNf k) : (zFs ad h k a)[j]? = some (zFv ad h k a j) := by
  unfold zFs; rw [List.getElem?_map, List.getElem?_range hj]; rfl
section ZW
variable {p : Program} {l : Launch} {e : Env} {R : Room} {s : State} {m : MethodId} {args : Array Value} {below : List Frame} {meth : Method} {c : Code} {H : Heap} {locs : List Loc} {cells slots : Nat} {Q : State → Prop}
variable {cc : ByteArray} {pc : Nat} {ls : Array Slot} {rest : List Value} {D : va_G} {a : Nat}
/-- putfield, with what else the heap holds -/
theorem zW_put {G : zG} {own C : String} {ini : Bool} {nL : Nat} {T : u_T} {N k idx : Nat} (cx : zCx G own cc nL ini D p s m args meth c) (hc : vwCl[k]? = some (C, T, N)) (hin : ∀ w ∈ u_ws C T N, w ∈ zTB) (hty : ∀ j, j < N → parseFieldDescriptor (T j).2.2.1 = some (zTy k j)) (hnm : ∀ a, a < N → ∀ b, b < N → a ≠ b → (T a).2.1 ≠ (T b).2.1) {fs : List Value} (hP : va_at D vwCl (a, .inr (k, fs)) H) {j : Nat} (hj : j < N) (hlink : Cond.fieldLink own idx (T j).1 (T j).2.1 (T j).2.2.1 ∈ zTB) (hfin : (T j).2.2.2 = false ∨ ((T j).2.2.2 = true ∧ ini = true ∧ (T j).1 = own)) {v : Value} (hn : narrow (zTy k j) v = v) (hfit : fits (zTy k j) v = true) (hl : j < fs.length) (hd : decode cc pc = .ok (.putfield idx, 3))
    (kk : ∀ (H' : Heap) (n : Nat), va_at D vwCl (a, .inr (k, fs.set j v)) H' → H'.size = H.size → (∀ q : Nat, q ≠ a → H'[q]? = H[q]?) → W p l e R s m args below meth c H' (locs ++ [⟨a, n⟩]) cells slots Q (F0 m (pc + 3) ls rest)) : W p l e R s m args below meth c H locs cells slots Q (F0 m pc ls (v :: .ref a :: rest)) := by
  obtain ⟨hx, hb, hml, hown, hts, hK, hlk, hini, hcf, hB, ho⟩ := cx
  have hap := va_apart (own := own) hts hin (zTy k) hty hnm hK hc
  obtain ⟨r, h1, cell, q1, q2, q3, q4⟩ := hP
  have hr : r = (C, T, N) := Option.some.inj (h1.symm.trans hc)
  subst hr
  obtain ⟨hS, hfc, kC, hkC, hkind⟩ := hK.1 k _ hc
  obtain ⟨cf, kf, fi, f, hi, hsl⟩ := hS j hj
  have hst := (u_facts hfc hkC (u_lays hts hin hj) hi).1
  have hlay := hts _ (hin _ (u_in_lay hj))
  unfold u_lay at hlay
  rcases hfin with hfin | ⟨hfin, hin1, hdecl⟩
  · rw [if_neg (by rw [hfin]; decide)] at hlay
    have h6 := u_store hfc hkC hkind hlay hi (hty j hj) hn hfit
    refine W.putK hx hb (f := f) ⟨hown, hts _ hlink, ⟨_, _, _, hi⟩, hst⟩ (by rw [q2]; exact h6) q1 q3 (by rw [hsl]; exact k2_hasslot (q4 j hj)) rfl rfl hd fun H' e1 e2 e3 => ?_
    rw [hsl] at e1 ⊢
    exact kk H' _ ⟨_, hc, t_OB.to (V := updV (vp_V fs) j v) ⟨_, e1, q2, q3, t_set q4 hap hj v⟩ (fun i _ => vp_updV_set hl v i)⟩ e2 e3
  · rw [if_pos hfin] at hlay
    have hcf2 : m.cls = cf := by
      obtain ⟨_, _, c', _, _, _, -, -, hf', -, -, -, hown2, -⟩ := Cond.laysFinal_spec hlay
      have e1 : c' = cf := by have := hi.symm.trans hf'; simp at this; exact this.1.symm
      rw [hdecl] at hown2
      rw [← e1]; exact Option.some.inj (hown.symm.trans hown2)
    have h6 := u_fits hfc hkC hkind (Or.inr hlay) hi (hty j hj) hn hfit
    refine W.putFinK hx hb hown (hts _ hlink) hi hst hcf2 (hini hin1) (by rw [q2]; exact h6) q1 q3 (by rw [hsl]; exact k2_hasslot (q4 j hj)) rfl rfl hd fun H' e1 e2 e3 => ?_
    rw [hsl] at e1 ⊢
    exact kk H' _ ⟨_, hc, t_OB.to (V := updV (vp_V fs) j v) ⟨_, e1, q2, q3, t_set q4 hap hj v⟩ (fun i _ => vp_updV_set hl v i)⟩ e2 e3
end ZW
theorem zgf_ne {k j i : Nat} (h : i ≠ j) : zgf k i ≠ zgf k j := by unfold zgf; omega
theorem zgf_pos (k j : Nat) : zgf k j ≠ 0 := by unfold zgf; omega

theorem zs_gfI {G : zG} {own : String} {cc : ByteArray} {nL : Nat} {ini : Bool} {pc : Nat} {C : String} {T : u_T} {N k j idx : Nat} (hc0 : vwCl[k]? = some (C, T, N)) (hN : N = zNf k) (hk10 : k < 10) (hin : ∀ w ∈ u_ws C T N, w ∈ zTB) (hj : j < N) (hlink : Cond.fieldLink own idx (T j).1 (T j).2.1 (T j).2.2.1 ∈ zTB) (hfv : ∀ ad h a, zFv ad h k a j = .int (zI h (zgf k j) a 0)) (hd : decode cc pc = .ok (.getfield idx, 3)) : zSnd G own cc nL ini pc (o_gfI (k + 1) (zgf k j)) := by
  intro ls st h pc' ls' st' h' he l p e R s m args below meth c D Q cx ad H locs cells slots lsr ok hS hc hs hR kk
  have cx0 := cx
  obtain ⟨hx, hb, hml, hown, hts, hK, hlk, hini, hcf, hB, ho⟩ := cx
  obtain ⟨rel, lr, ws⟩ := ok
  unfold o_gfI at he
  split at he
  · rename_i a r
    split at he
    · rename_i hta
      cases he
      have hP : va_at D vwCl (ad a, .inr (k, zFs ad h k a)) H := by
        have h9 := (rel.2.2.2.2.1 a).1 (by rw [hta]; omega) (by rw [hta]; omega)
        rw [hta] at h9
        exact h9
      exact va_get (D := D) (cl := vwCl) (tys := []) (ci := k) hx hb hts hin hown hK (zP1 hP) 0 rfl hc0 j hj (hts _ hlink) (fun _ h9 => h9) ((zFs_at (by omega)).trans (congrArg some (hfv ad h a))) hd (kk ad H locs cells slots lsr (fun _ _ => rfl) (Nat.le_refl _) ⟨rel, lr, zw_c trivial (zw_t ws)⟩ hS rfl rfl)
    · cases he
  · cases he

theorem zs_gfL {G : zG} {own : String} {cc : ByteArray} {nL : Nat} {ini : Bool} {pc : Nat} {C : String} {T : u_T} {N k j idx : Nat} (hc0 : vwCl[k]? = some (C, T, N)) (hN : N = zNf k) (hk10 : k < 10) (hin : ∀ w ∈ u_ws C T N, w ∈ zTB) (hj : j < N) (hlink : Cond.fieldLink own idx (T j).1 (T j).2.1 (T j).2.2.1 ∈ zTB) (hfv : ∀ ad h a, zFv ad h k a j = .long (zL h (zgf k j) a 0)) (hd : decode cc pc = .ok (.getfield idx, 3)) : zSnd G own cc nL ini pc (o_gfL (k + 1) (zgf k j)) := by
  intro ls st h pc' ls' st' h' he l p e R s m args below meth c D Q cx ad H locs cells slots lsr ok hS hc hs hR kk
  have cx0 := cx
  obtain ⟨hx, hb, hml, hown, hts, hK, hlk, hini, hcf, hB, ho⟩ := cx
  obtain ⟨rel, lr, ws⟩ := ok
  unfold o_gfL at he
  split at he
  · rename_i a r
    split at he
    · rename_i hta
      cases he
      have hP : va_at D vwCl (ad a, .inr (k, zFs ad h k a)) H := by
        have h9 := (rel.2.2.2.2.1 a).1 (by rw [hta]; omega) (by rw [hta]; omega)
        rw [hta] at h9
        exact h9
      exact va_get (D := D) (cl := vwCl) (tys := []) (ci := k) hx hb hts hin hown hK (zP1 hP) 0 rfl hc0 j hj (hts _ hlink) (fun _ h9 => h9) ((zFs_at (by omega)).trans (congrArg some (hfv ad h a))) hd (kk ad H locs cells slots lsr (fun _ _ => rfl) (Nat.le_refl _) ⟨rel, lr, zw_c trivial (zw_t ws)⟩ hS rfl rfl)
    · cases he
  · cases he

theorem zs_gfR {G : zG} {own : String} {cc : ByteArray} {nL : Nat} {ini : Bool} {pc : Nat} {C : String} {T : u_T} {N k j idx : Nat} (hc0 : vwCl[k]? = some (C, T, N)) (hN : N = zNf k) (hk10 : k < 10) (hin : ∀ w ∈ u_ws C T N, w ∈ zTB) (hj : j < N) (hlink : Cond.fieldLink own idx (T j).1 (T j).2.1 (T j).2.2.1 ∈ zTB) (hfv : ∀ ad h a, zFv ad h k a j = va_rf ((zR h (zgf k j) a 0).map ad)) (hd : decode cc pc = .ok (.getfield idx, 3)) : zSnd G own cc nL ini pc (o_gfR (k + 1) (zgf k j)) := by
  intro ls st h pc' ls' st' h' he l p e R s m args below meth c D Q cx ad H locs cells slots lsr ok hS hc hs hR kk
  have cx0 := cx
  obtain ⟨hx, hb, hml, hown, hts, hK, hlk, hini, hcf, hB, ho⟩ := cx
  obtain ⟨rel, lr, ws⟩ := ok
  unfold o_gfR at he
  split at he
  · rename_i a r
    split at he
    · rename_i hta
      cases he
      have hP : va_at D vwCl (ad a, .inr (k, zFs ad h k a)) H := by
        have h9 := (rel.2.2.2.2.1 a).1 (by rw [hta]; omega) (by rw [hta]; omega)
        rw [hta] at h9
        exact h9
      have k2 := kk ad H locs cells slots lsr (fun _ _ => rfl) (Nat.le_refl _) ⟨rel, lr, zw_c (by cases hz : zR h (zgf k j) a 0 with | none => trivial | some b => exact rel.2.1 _ _ _ _ hz) (zw_t ws)⟩ hS rfl rfl
      rw [List.map_cons, zmv_rf] at k2
      exact va_get (D := D) (cl := vwCl) (tys := []) (ci := k) hx hb hts hin hown hK (zP1 hP) 0 rfl hc0 j hj (hts _ hlink) (fun _ h9 => h9) ((zFs_at (by omega)).trans (congrArg some (hfv ad h a))) hd k2
    · cases he
  · cases he

theorem zFv_sI {ad : Nat → Nat} {h : zH} {k j a : Nat} {x : Int32} {i : Nat} (hi : i ≠ j) : zFv ad (zsI h (zgf k j) a 0 x) k a i = zFv ad h k a i := by
  unfold zFv
  have e : zI (zsI h (zgf k j) a 0 x) (zgf k i) a 0 = zI h (zgf k i) a 0 := if_neg (fun q => zgf_ne hi q.1)
  have e2 : zL (zsI h (zgf k j) a 0 x) = zL h := rfl
  have e3 : zR (zsI h (zgf k j) a 0 x) = zR h := rfl
  rw [e, e2, e3]
theorem zFv_sL {ad : Nat → Nat} {h : zH} {k j a : Nat} {x : Int64} {i : Nat} (hi : i ≠ j) : zFv ad (zsL h (zgf k j) a 0 x) k a i = zFv ad h k a i := by
  unfold zFv
  have e : zL (zsL h (zgf k j) a 0 x) (zgf k i) a 0 = zL h (zgf k i) a 0 := if_neg (fun q => zgf_ne hi q.1)
  have e2 : zI (zsL h (zgf k j) a 0 x) = zI h := rfl
  have e3 : zR (zsL h (zgf k j) a 0 x) = zR h := rfl
  rw [e, e2, e3]
theorem zFv_sR {ad : Nat → Nat} {h : zH} {k j a : Nat} {x : Option Nat} {i : Nat} (hi : i ≠ j) : zFv ad (zsR h (zgf k j) a 0 x) k a i = zFv ad h k a i := by
  unfold zFv
  have e : zR (zsR h (zgf k j) a 0 x) (zgf k i) a 0 = zR h (zgf k i) a 0 := if_neg (fun q => zgf_ne hi q.1)
  have e2 : zI (zsR h (zgf k j) a 0 x) = zI h := rfl
  have e3 : zL (zsR h (zgf k j) a 0 x) = zL h := rfl
  rw [e, e2, e3]
theorem zsI_at (h : zH) (g a i : Nat) (x : Int32) : zI (zsI h g a i x) g a i = x := if_pos ⟨rfl, rfl, rfl⟩
theorem zsL_at (h : zH) (g a i : Nat) (x : Int64) : zL (zsL h g a i x) g a i = x := if_pos ⟨rfl, rfl, rfl⟩
theorem zsR_at (h : zH) (g a i : Nat) (x : Option Nat) : zR (zsR h g a i x) g a i = x := if_pos ⟨rfl, rfl, rfl⟩

theorem zs_pfI {G : zG} {own : String} {cc : ByteArray} {nL : Nat} {ini : Bool} {pc : Nat} {C : String} {T : u_T} {N k j idx : Nat} (hc0 : vwCl[k]? = some (C, T, N)) (hN : N = zNf k) (hk10 : k < 10) (hin : ∀ w ∈ u_ws C T N, w ∈ zTB) (hj : j < N) (hlink : Cond.fieldLink own idx (T j).1 (T j).2.1 (T j).2.2.1 ∈ zTB) (hty : ∀ j, j < N → parseFieldDescriptor (T j).2.2.1 = some (zTy k j)) (hnm : ∀ a, a < N → ∀ b, b < N → a ≠ b → (T a).2.1 ≠ (T b).2.1) (hfin : (T j).2.2.2 = false ∨ ((T j).2.2.2 = true ∧ ini = true ∧ (T j).1 = own)) {nr : Int32 → Int32} (hnr : ∀ x, nr x = x → narrow (zTy k j) (.int x) = .int x ∧ fits (zTy k j) (.int x) = true) (hfv : ∀ ad h a, zFv ad h k a j = .int (zI h (zgf k j) a 0)) (hd : decode cc pc = .ok (.putfield idx, 3)) : zSnd G own cc nL ini pc (o_pfI (k + 1) (zgf k j) nr) := by
  intro ls st h pc' ls' st' h' he l p e R s m args below meth c D Q cx ad H locs cells slots lsr ok hS hc hs hR kk
  have cx0 := cx
  obtain ⟨hx, hb, hml, hown, hts, hK, hlk, hini, hcf, hB, ho⟩ := cx
  obtain ⟨rel, lr, ws⟩ := ok
  unfold o_pfI at he
  split at he
  · rename_i x a r
    split at he
    · rename_i hcond
      obtain ⟨hta, hnx⟩ := hcond
      cases he
      have hP : va_at D vwCl (ad a, .inr (k, zFs ad h k a)) H := by
        have h9 := (rel.2.2.2.2.1 a).1 (by rw [hta]; omega) (by rw [hta]; omega)
        rw [hta] at h9
        exact h9
      refine zW_put cx0 hc0 hin hty hnm hP hj hlink hfin (hnr x hnx).1 (hnr x hnx).2 (by rw [zFs_len]; omega) hd fun H' n e1 e2 e3 => ?_
      have hda := (rel.2.2.1 a (by rw [hta]; unfold zDy; omega))
      refine kk ad H' _ cells slots lsr (fun _ _ => rfl) (Nat.le_refl _) ⟨zRel_put rel e2 e3 (by rw [hta]; unfold zDy; omega) rfl rfl rfl ?_ ?_ ?_ ?_ ?_, lr, zw_t (zw_t ws)⟩ (hS.put e2 e3 hda.2.1) rfl rfl
      · intro g b i hb9; first | rfl | exact if_neg (fun q => hb9 q.2.1)
      · intro g b i hb9; first | rfl | exact if_neg (fun q => hb9 q.2.1)
      · intro g b i hb9; first | rfl | exact if_neg (fun q => hb9 q.2.1)
      · intro g i b hb9; exact rel.2.1 g a i b hb9
      · refine ⟨fun h1 h2 => ?_, fun h1 => ?_, fun h1 => ?_, fun h1 h2 => ?_⟩
        · show va_at D vwCl (ad a, .inr (zT h a - 1, zFs ad _ (zT h a - 1) a)) H'
          rw [hta]
          show va_at D vwCl (ad a, .inr (k, zFs ad _ k a)) H'
          rw [zFs_set (h := h) (j := j) (by omega) (fun i hi => ?_) ((hfv ad _ a).trans (congrArg Value.int (zsI_at h _ a 0 x)))]
          · exact e1
          · exact zFv_sI hi
        · have h8 := zIsX_rng h1
          have h7 : zT h a = k + 1 := hta
          have h6 : 20 ≤ zT h a := h8.1
          omega
        · have h7 : zT h a = k + 1 := hta
          have h6 : zT h a = 21 := h1
          omega
        · have h7 : zT h a = k + 1 := hta
          have h6 : 31 ≤ zT h a := h1
          omega
    · cases he
  · cases he

theorem zs_pfL {G : zG} {own : String} {cc : ByteArray} {nL : Nat} {ini : Bool} {pc : Nat} {C : String} {T : u_T} {N k j idx : Nat} (hc0 : vwCl[k]? = some (C, T, N)) (hN : N = zNf k) (hk10 : k < 10) (hin : ∀ w ∈ u_ws C T N, w ∈ zTB) (hj : j < N) (hlink : Cond.fieldLink own idx (T j).1 (T j).2.1 (T j).2.2.1 ∈ zTB) (hty : ∀ j, j < N → parseFieldDescriptor (T j).2.2.1 = some (zTy k j)) (hnm : ∀ a, a < N → ∀ b, b < N → a ≠ b → (T a).2.1 ≠ (T b).2.1) (hfin : (T j).2.2.2 = false ∨ ((T j).2.2.2 = true ∧ ini = true ∧ (T j).1 = own)) (hjl : zTy k j = .long) (hfv : ∀ ad h a, zFv ad h k a j = .long (zL h (zgf k j) a 0)) (hd : decode cc pc = .ok (.putfield idx, 3)) : zSnd G own cc nL ini pc (o_pfL (k + 1) (zgf k j)) := by
  intro ls st h pc' ls' st' h' he l p e R s m args below meth c D Q cx ad H locs cells slots lsr ok hS hc hs hR kk
  have cx0 := cx
  obtain ⟨hx, hb, hml, hown, hts, hK, hlk, hini, hcf, hB, ho⟩ := cx
  obtain ⟨rel, lr, ws⟩ := ok
  unfold o_pfL at he
  split at he
  · rename_i x a r
    split at he
    · rename_i hta
      cases he
      have hP : va_at D vwCl (ad a, .inr (k, zFs ad h k a)) H := by
        have h9 := (rel.2.2.2.2.1 a).1 (by rw [hta]; omega) (by rw [hta]; omega)
        rw [hta] at h9
        exact h9
      refine zW_put cx0 hc0 hin hty hnm hP hj hlink hfin (by rw [hjl]; rfl) (by rw [hjl]; rfl) (by rw [zFs_len]; omega) hd fun H' n e1 e2 e3 => ?_
      have hda := (rel.2.2.1 a (by rw [hta]; unfold zDy; omega))
      refine kk ad H' _ cells slots lsr (fun _ _ => rfl) (Nat.le_refl _) ⟨zRel_put rel e2 e3 (by rw [hta]; unfold zDy; omega) rfl rfl rfl ?_ ?_ ?_ ?_ ?_, lr, zw_t (zw_t ws)⟩ (hS.put e2 e3 hda.2.1) rfl rfl
      · intro g b i hb9; first | rfl | exact if_neg (fun q => hb9 q.2.1)
      · intro g b i hb9; first | rfl | exact if_neg (fun q => hb9 q.2.1)
      · intro g b i hb9; first | rfl | exact if_neg (fun q => hb9 q.2.1)
      · intro g i b hb9; exact rel.2.1 g a i b hb9
      · refine ⟨fun h1 h2 => ?_, fun h1 => ?_, fun h1 => ?_, fun h1 h2 => ?_⟩
        · show va_at D vwCl (ad a, .inr (zT h a - 1, zFs ad _ (zT h a - 1) a)) H'
          rw [hta]
          show va_at D vwCl (ad a, .inr (k, zFs ad _ k a)) H'
          rw [zFs_set (h := h) (j := j) (by omega) (fun i hi => ?_) ((hfv ad _ a).trans (congrArg Value.long (zsL_at h _ a 0 x)))]
          · exact e1
          · exact zFv_sL hi
        · have h8 := zIsX_rng h1
          have h7 : zT h a = k + 1 := hta
          have h6 : 20 ≤ zT h a := h8.1
          omega
        · have h7 : zT h a = k + 1 := hta
          have h6 : zT h a = 21 := h1
          omega
        · have h7 : zT h a = k + 1 := hta
          have h6 : 31 ≤ zT h a := h1
          omega
    · cases he
  · cases he

theorem zs_pfR {G : zG} {own : String} {cc : ByteArray} {nL : Nat} {ini : Bool} {pc : Nat} {C : String} {T : u_T} {N k j idx : Nat} (hc0 : vwCl[k]? = some (C, T, N)) (hN : N = zNf k) (hk10 : k < 10) (hin : ∀ w ∈ u_ws C T N, w ∈ zTB) (hj : j < N) (hlink : Cond.fieldLink own idx (T j).1 (T j).2.1 (T j).2.2.1 ∈ zTB) (hty : ∀ j, j < N → parseFieldDescriptor (T j).2.2.1 = some (zTy k j)) (hnm : ∀ a, a < N → ∀ b, b < N → a ≠ b → (T a).2.1 ≠ (T b).2.1) (hfin : (T j).2.2.2 = false ∨ ((T j).2.2.2 = true ∧ ini = true ∧ (T j).1 = own)) (hnr : ∀ r, narrow (zTy k j) (va_rf r) = va_rf r ∧ fits (zTy k j) (va_rf r) = true) (hfv : ∀ ad h a, zFv ad h k a j = va_rf ((zR h (zgf k j) a 0).map ad)) (hd : decode cc pc = .ok (.putfield idx, 3)) : zSnd G own cc nL ini pc (o_pfR (k + 1) (zgf k j)) := by
  intro ls st h pc' ls' st' h' he l p e R s m args below meth c D Q cx ad H locs cells slots lsr ok hS hc hs hR kk
  have cx0 := cx
  obtain ⟨hx, hb, hml, hown, hts, hK, hlk, hini, hcf, hB, ho⟩ := cx
  obtain ⟨rel, lr, ws⟩ := ok
  unfold o_pfR at he
  split at he
  · rename_i b a r
    split at he
    · rename_i hta
      cases he
      have hP : va_at D vwCl (ad a, .inr (k, zFs ad h k a)) H := by
        have h9 := (rel.2.2.2.2.1 a).1 (by rw [hta]; omega) (by rw [hta]; omega)
        rw [hta] at h9
        exact h9
      refine zW_put cx0 hc0 hin hty hnm hP hj hlink hfin (hnr (some (ad b))).1 (hnr (some (ad b))).2 (by rw [zFs_len]; omega) hd fun H' n e1 e2 e3 => ?_
      have hda := (rel.2.2.1 a (by rw [hta]; unfold zDy; omega))
      refine kk ad H' _ cells slots lsr (fun _ _ => rfl) (Nat.le_refl _) ⟨zRel_put rel e2 e3 (by rw [hta]; unfold zDy; omega) rfl rfl rfl ?_ ?_ ?_ ?_ ?_, lr, zw_t (zw_t ws)⟩ (hS.put e2 e3 hda.2.1) rfl rfl
      · intro g b i hb9; first | rfl | exact if_neg (fun q => hb9 q.2.1)
      · intro g b i hb9; first | rfl | exact if_neg (fun q => hb9 q.2.1)
      · intro g b i hb9; first | rfl | exact if_neg (fun q => hb9 q.2.1)
      · intro g i x hb9
        by_cases hq : g = zgf k j ∧ a = a ∧ i = 0
        · have h8 : zR (zsR h (zgf k j) a 0 (some b)) g a i = some b := if_pos hq
          rw [h8] at hb9
          injection hb9 with hb9
          subst hb9
          exact zw_h ws
        · have h8 : zR (zsR h (zgf k j) a 0 (some b)) g a i = zR h g a i := if_neg hq
          rw [h8] at hb9
          exact rel.2.1 g a i x hb9
      · refine ⟨fun h1 h2 => ?_, fun h1 => ?_, fun h1 => ?_, fun h1 h2 => ?_⟩
        · show va_at D vwCl (ad a, .inr (zT h a - 1, zFs ad _ (zT h a - 1) a)) H'
          rw [hta]
          show va_at D vwCl (ad a, .inr (k, zFs ad _ k a)) H'
          rw [zFs_set (h := h) (j := j) (by omega) (fun i hi => ?_) ((hfv ad _ a).trans (by rw [zsR_at]))]
          · exact e1
          · exact zFv_sR hi
        · have h8 := zIsX_rng h1
          have h7 : zT h a = k + 1 := hta
          have h6 : 20 ≤ zT h a := h8.1
          omega
        · have h7 : zT h a = k + 1 := hta
          have h6 : zT h a = 21 := h1
          omega
        · have h7 : zT h a = k + 1 := hta
          have h6 : 31 ≤ zT h a := h1
          omega
    · cases he
  · rename_i a r
    split at he
    · rename_i hta
      cases he
      have hP : va_at D vwCl (ad a, .inr (k, zFs ad h k a)) H := by
        have h9 := (rel.2.2.2.2.1 a).1 (by rw [hta]; omega) (by rw [hta]; omega)
        rw [hta] at h9
        exact h9
      refine zW_put cx0 hc0 hin hty hnm hP hj hlink hfin (hnr none).1 (hnr none).2 (by rw [zFs_len]; omega) hd fun H' n e1 e2 e3 => ?_
      have hda := (rel.2.2.1 a (by rw [hta]; unfold zDy; omega))
      refine kk ad H' _ cells slots lsr (fun _ _ => rfl) (Nat.le_refl _) ⟨zRel_put rel e2 e3 (by rw [hta]; unfold zDy; omega) rfl rfl rfl ?_ ?_ ?_ ?_ ?_, lr, zw_t (zw_t ws)⟩ (hS.put e2 e3 hda.2.1) rfl rfl
      · intro g b i hb9; first | rfl | exact if_neg (fun q => hb9 q.2.1)
      · intro g b i hb9; first | rfl | exact if_neg (fun q => hb9 q.2.1)
      · intro g b i hb9; first | rfl | exact if_neg (fun q => hb9 q.2.1)
      · intro g i x hb9
        by_cases hq : g = zgf k j ∧ a = a ∧ i = 0
        · have h8 : zR (zsR h (zgf k j) a 0 none) g a i = none := if_pos hq
          rw [h8] at hb9
          cases hb9
        · have h8 : zR (zsR h (zgf k j) a 0 none) g a i = zR h g a i := if_neg hq
          rw [h8] at hb9
          exact rel.2.1 g a i x hb9
      · refine ⟨fun h1 h2 => ?_, fun h1 => ?_, fun h1 => ?_, fun h1 h2 => ?_⟩
        · show va_at D vwCl (ad a, .inr (zT h a - 1, zFs ad _ (zT h a - 1) a)) H'
          rw [hta]
          show va_at D vwCl (ad a, .inr (k, zFs ad _ k a)) H'
          rw [zFs_set (h := h) (j := j) (by omega) (fun i hi => ?_) ((hfv ad _ a).trans (by rw [zsR_at]))]
          · exact e1
          · exact zFv_sR hi
        · have h8 := zIsX_rng h1
          have h7 : zT h a = k + 1 := hta
          have h6 : 20 ≤ zT h a := h8.1
          omega
        · have h7 : zT h a = k + 1 := hta
          have h6 : zT h a = 21 := h1
          omega
        · have h7 : zT h a = k + 1 := hta
          have h6 : 31 ≤ zT h a := h1
          omega
    · cases he
  · cases he

theorem zs_iald {G : zG} {own : String} {cc : ByteArray} {nL : Nat} {ini : Bool} {pc : Nat} (hd : decode cc pc = .ok (.iaload, 1)) : zSnd G own cc nL ini pc (o_xald 20) := by
  intro ls st h pc' ls' st' h' he l p e R s m args below meth c D Q cx ad H locs cells slots lsr ok hS hc hs hR kk
  have cx0 := cx
  obtain ⟨hx, hb, hml, hown, hts, hK, hlk, hini, hcf, hB, ho⟩ := cx
  obtain ⟨rel, lr, ws⟩ := ok
  unfold o_xald at he
  split at he
  · rename_i i a r
    split at he
    · rename_i hcond
      obtain ⟨hta, hi0, hil⟩ := hcond
      cases he
      have hin9 : vp_in i (zE h a) := fun q => q.elim hi0 (fun q => absurd q (Nat.not_le.mpr hil))
      obtain ⟨cA, g1, g2, g3⟩ := (rel.2.2.2.2.1 a).2.1 (by rw [hta]; unfold zIsX; omega)
      rw [hta] at g2 g3
      exact va_iald (D := D) (cl := vwCl) (tys := [(cA, zAt 20)]) hx hb ⟨hK.1, fun q x hq => by cases q with | zero => cases hq; exact ⟨g2, g3⟩ | succ q => cases hq⟩ (zP1 g1) 0 0 rfl rfl hin9 hd (kk ad H locs cells slots lsr (fun _ _ => rfl) (Nat.le_refl _) ⟨rel, lr, zw_c trivial (zw_t (zw_t ws))⟩ hS rfl rfl)
    · cases he
  · cases he

theorem zs_cald {G : zG} {own : String} {cc : ByteArray} {nL : Nat} {ini : Bool} {pc : Nat} (hd : decode cc pc = .ok (.caload, 1)) : zSnd G own cc nL ini pc (o_xald 22) := by
  intro ls st h pc' ls' st' h' he l p e R s m args below meth c D Q cx ad H locs cells slots lsr ok hS hc hs hR kk
  have cx0 := cx
  obtain ⟨hx, hb, hml, hown, hts, hK, hlk, hini, hcf, hB, ho⟩ := cx
  obtain ⟨rel, lr, ws⟩ := ok
  unfold o_xald at he
  split at he
  · rename_i i a r
    split at he
    · rename_i hcond
      obtain ⟨hta, hi0, hil⟩ := hcond
      cases he
      have hin9 : vp_in i (zE h a) := fun q => q.elim hi0 (fun q => absurd q (Nat.not_le.mpr hil))
      obtain ⟨cA, g1, g2, g3⟩ := (rel.2.2.2.2.1 a).2.1 (by rw [hta]; unfold zIsX; omega)
      rw [hta] at g2 g3
      exact va_cald (D := D) (cl := vwCl) (tys := [(cA, zAt 22)]) hx hb ⟨hK.1, fun q x hq => by cases q with | zero => cases hq; exact ⟨g2, g3⟩ | succ q => cases hq⟩ (zP1 g1) 0 0 rfl rfl hin9 hd (kk ad H locs cells slots lsr (fun _ _ => rfl) (Nat.le_refl _) ⟨rel, lr, zw_c trivial (zw_t (zw_t ws))⟩ hS rfl rfl)
    · cases he
  · cases he

theorem zs_zald {G : zG} {own : String} {cc : ByteArray} {nL : Nat} {ini : Bool} {pc : Nat} (hd : decode cc pc = .ok (.baload, 1)) : zSnd G own cc nL ini pc (o_xald 23) := by
  intro ls st h pc' ls' st' h' he l p e R s m args below meth c D Q cx ad H locs cells slots lsr ok hS hc hs hR kk
  have cx0 := cx
  obtain ⟨hx, hb, hml, hown, hts, hK, hlk, hini, hcf, hB, ho⟩ := cx
  obtain ⟨rel, lr, ws⟩ := ok
  unfold o_xald at he
  split at he
  · rename_i i a r
    split at he
    · rename_i hcond
      obtain ⟨hta, hi0, hil⟩ := hcond
      cases he
      have hin9 : vp_in i (zE h a) := fun q => q.elim hi0 (fun q => absurd q (Nat.not_le.mpr hil))
      obtain ⟨cA, g1, g2, g3⟩ := (rel.2.2.2.2.1 a).2.1 (by rw [hta]; unfold zIsX; omega)
      rw [hta] at g2 g3
      exact va_zald (D := D) (cl := vwCl) (tys := [(cA, zAt 23)]) hx hb ⟨hK.1, fun q x hq => by cases q with | zero => cases hq; exact ⟨g2, g3⟩ | succ q => cases hq⟩ (zP1 g1) 0 0 rfl rfl hin9 hd (kk ad H locs cells slots lsr (fun _ _ => rfl) (Nat.le_refl _) ⟨rel, lr, zw_c trivial (zw_t (zw_t ws))⟩ hS rfl rfl)
    · cases he
  · cases he

theorem zs_bald {G : zG} {own : String} {cc : ByteArray} {nL : Nat} {ini : Bool} {pc : Nat} (hd : decode cc pc = .ok (.baload, 1)) : zSnd G own cc nL ini pc (o_xald 24) := by
  intro ls st h pc' ls' st' h' he l p e R s m args below meth c D Q cx ad H locs cells slots lsr ok hS hc hs hR kk
  have cx0 := cx
  obtain ⟨hx, hb, hml, hown, hts, hK, hlk, hini, hcf, hB, ho⟩ := cx
  obtain ⟨rel, lr, ws⟩ := ok
  unfold o_xald at he
  split at he
  · rename_i i a r
    split at he
    · rename_i hcond
      obtain ⟨hta, hi0, hil⟩ := hcond
      cases he
      have hin9 : vp_in i (zE h a) := fun q => q.elim hi0 (fun q => absurd q (Nat.not_le.mpr hil))
      obtain ⟨cA, g1, g2, g3⟩ := (rel.2.2.2.2.1 a).2.1 (by rw [hta]; unfold zIsX; omega)
      rw [hta] at g2 g3
      exact va_bald (D := D) (cl := vwCl) (tys := [(cA, zAt 24)]) hx hb ⟨hK.1, fun q x hq => by cases q with | zero => cases hq; exact ⟨g2, g3⟩ | succ q => cases hq⟩ (zP1 g1) 0 0 rfl rfl hin9 hd (kk ad H locs cells slots lsr (fun _ _ => rfl) (Nat.le_refl _) ⟨rel, lr, zw_c trivial (zw_t (zw_t ws))⟩ hS rfl rfl)
    · cases he
  · cases he

theorem zs_lald {G : zG} {own : String} {cc : ByteArray} {nL : Nat} {ini : Bool} {pc : Nat} (hd : decode cc pc = .ok (.laload, 1)) : zSnd G own cc nL ini pc (o_lald) := by
  intro ls st h pc' ls' st' h' he l p e R s m args below meth c D Q cx ad H locs cells slots lsr ok hS hc hs hR kk
  have cx0 := cx
  obtain ⟨hx, hb, hml, hown, hts, hK, hlk, hini, hcf, hB, ho⟩ := cx
  obtain ⟨rel, lr, ws⟩ := ok
  unfold o_lald at he
  split at he
  · rename_i i a r
    split at he
    · rename_i hcond
      obtain ⟨hta, hi0, hil⟩ := hcond
      cases he
      have hin9 : vp_in i (zE h a) := fun q => q.elim hi0 (fun q => absurd q (Nat.not_le.mpr hil))
      obtain ⟨cA, g1, g2, g3⟩ := (rel.2.2.2.2.1 a).2.2.1 hta
      exact va_lald (D := D) (cl := vwCl) (tys := [(cA, .long)]) hx hb ⟨hK.1, fun q x hq => by cases q with | zero => cases hq; exact ⟨g2, g3⟩ | succ q => cases hq⟩ (zP1 g1) 0 0 rfl rfl hin9 hd (kk ad H locs cells slots lsr (fun _ _ => rfl) (Nat.le_refl _) ⟨rel, lr, zw_c trivial (zw_t (zw_t ws))⟩ hS rfl rfl)
    · cases he
  · cases he

theorem zs_aald {G : zG} {own : String} {cc : ByteArray} {nL : Nat} {ini : Bool} {pc : Nat} {t : Nat} (h31 : 31 ≤ t) (h33 : t ≤ 33) (hd : decode cc pc = .ok (.aaload, 1)) : zSnd G own cc nL ini pc (o_aald t) := by
  intro ls st h pc' ls' st' h' he l p e R s m args below meth c D Q cx ad H locs cells slots lsr ok hS hc hs hR kk
  have cx0 := cx
  obtain ⟨hx, hb, hml, hown, hts, hK, hlk, hini, hcf, hB, ho⟩ := cx
  obtain ⟨rel, lr, ws⟩ := ok
  unfold o_aald at he
  split at he
  · rename_i i a r
    split at he
    · rename_i hcond
      obtain ⟨hta, hi0, hil⟩ := hcond
      cases he
      have hin9 : vp_in i (zE h a) := fun q => q.elim hi0 (fun q => absurd q (Nat.not_le.mpr hil))
      obtain ⟨cA, g1, g2, g3⟩ := (rel.2.2.2.2.1 a).2.2.2 (by omega) (by omega)
      have k2 := kk ad H locs cells slots lsr (fun _ _ => rfl) (Nat.le_refl _) ⟨rel, lr, zw_c (by cases hz : zR h 0 a i.toNatClampNeg with | none => trivial | some b => exact rel.2.1 _ _ _ _ hz) (zw_t (zw_t ws))⟩ hS rfl rfl
      rw [List.map_cons, zmv_rf] at k2
      exact va_aldq (D := D) (cl := vwCl) (tys := [(cA, .object (zAn (zT h a)))]) hx hb ⟨hK.1, fun q x hq => by cases q with | zero => cases hq; exact ⟨g2, g3⟩ | succ q => cases hq⟩ (zP1 g1) 0 0 rfl rfl hin9 hd k2
    · cases he
  · cases he

theorem zs_alen {G : zG} {own : String} {cc : ByteArray} {nL : Nat} {ini : Bool} {pc : Nat} (hd : decode cc pc = .ok (.arraylength, 1)) : zSnd G own cc nL ini pc (o_alen) := by
  intro ls st h pc' ls' st' h' he l p e R s m args below meth c D Q cx ad H locs cells slots lsr ok hS hc hs hR kk
  have cx0 := cx
  obtain ⟨hx, hb, hml, hown, hts, hK, hlk, hini, hcf, hB, ho⟩ := cx
  obtain ⟨rel, lr, ws⟩ := ok
  unfold o_alen at he
  split at he
  · rename_i a r
    split at he
    · rename_i hcond
      cases he
      have hcl := rel.2.2.2.2.1 a
      have fin : ∀ (cA : ClassId) (x : vp_A) (ty : FieldType), x.1 = zE h a → va_at D vwCl (ad a, .inl (cA, x)) H → ArrOfT s cA ty → va_RA s cA ty → W p l e R s m args below meth c H locs cells slots Q (F0 m pc lsr ((Value.ref a :: r).map (zmv G.2.2.2.2 ad))) := fun cA x ty hx9 g1 g2 g3 =>
        va_alen (D := D) (cl := vwCl) (tys := [(cA, ty)]) hx hb ⟨hK.1, fun q x hq => by cases q with | zero => cases hq; exact ⟨g2, g3⟩ | succ q => cases hq⟩ (zP1 g1) 0 0 rfl rfl (by rw [hx9]; rfl) hd (kk ad H locs cells slots lsr (fun _ _ => rfl) (Nat.le_refl _) ⟨rel, lr, zw_c trivial (zw_t ws)⟩ hS rfl rfl)
      by_cases h1 : zIsX (zT h a)
      · obtain ⟨cA, g1, g2, g3⟩ := hcl.2.1 h1
        exact fin cA _ _ rfl g1 g2 g3
      · by_cases h2 : zT h a = 21
        · obtain ⟨cA, g1, g2, g3⟩ := hcl.2.2.1 h2
          exact fin cA _ _ rfl g1 g2 g3
        · by_cases h3 : 31 ≤ zT h a ∧ zT h a ≤ 33
          · obtain ⟨cA, g1, g2, g3⟩ := hcl.2.2.2 h3.1 h3.2
            exact fin cA _ _ rfl g1 g2 g3
          · exfalso
            unfold zIsX at h1
            omega
    · cases he
  · cases he

theorem zs_iast {G : zG} {own : String} {cc : ByteArray} {nL : Nat} {ini : Bool} {pc : Nat} (hd : decode cc pc = .ok (.iastore, 1)) : zSnd G own cc nL ini pc (o_xast 20 (fun x => x)) := by
  intro ls st h pc' ls' st' h' he l p e R s m args below meth c D Q cx ad H locs cells slots lsr ok hS hc hs hR kk
  have cx0 := cx
  obtain ⟨hx, hb, hml, hown, hts, hK, hlk, hini, hcf, hB, ho⟩ := cx
  obtain ⟨rel, lr, ws⟩ := ok
  unfold o_xast at he
  split at he
  · rename_i x i a r
    split at he
    · rename_i hcond
      obtain ⟨hta, hi0, hil⟩ := hcond
      cases he
      have hin9 : vp_in i (zE h a) := fun q => q.elim hi0 (fun q => absurd q (Nat.not_le.mpr hil))
      obtain ⟨cA, g1, g2, g3⟩ := (rel.2.2.2.2.1 a).2.1 (by rw [hta]; unfold zIsX; omega)
      rw [hta] at g2 g3
      have hda := (rel.2.2.1 a (by rw [hta]; unfold zDy; omega))
      refine W.iast hx hb (a := ad a) g1 (g2 _ (fun j => .int (zI h 0 a j))) (fun q => by cases q) (by show ¬ (i < 0 ∨ (arrV _ _ _).slots.size ≤ _); rw [arrV_size]; exact hin9) rfl rfl hd fun H' e1 e2 e3 => ?_
      refine kk ad H' _ cells slots lsr (fun _ _ => rfl) (Nat.le_refl _) ⟨zRel_put rel e2 e3 (by rw [hta]; unfold zDy; omega) rfl rfl rfl ?_ ?_ ?_ ?_ ?_, lr, zw_t (zw_t (zw_t ws))⟩ (hS.put e2 e3 hda.2.1) rfl rfl
      · intro g b i hb9; first | rfl | exact if_neg (fun q => hb9 q.2.1)
      · intro g b i hb9; first | rfl | exact if_neg (fun q => hb9 q.2.1)
      · intro g b i hb9; first | rfl | exact if_neg (fun q => hb9 q.2.1)
      · intro g i b hb9; exact rel.2.1 g a i b hb9
      · refine ⟨fun h1 h2 => ?_, fun h1 => ?_, fun h1 => ?_, fun h1 h2 => ?_⟩
        · have h7 : zT h a = 20 := hta
          have h6 : zT h a ≤ 10 := h2
          omega
        · refine ⟨cA, ?_, by show ArrOfT s cA (zAt (zT h a)); rw [hta]; exact g2, by show va_RA s cA (zAt (zT h a)); rw [hta]; exact g3⟩
          show H'[ad a]? = some (vp_cell cA (zE h a, .inl (zI (zsI h 0 a i.toNatClampNeg _) 0 a)))
          rw [e1, vp_cell_i, vp_cell_i, arrV_store]
          congr 2
          funext q
          by_cases hq : q = i.toNatClampNeg
          · subst hq
            rw [zsI_at]
            simp [updV]
            try rfl
          · have h8 : zI (zsI h 0 a i.toNatClampNeg ((fun x => x) x)) 0 a q = zI h 0 a q := if_neg (fun z => hq z.2.2)
            rw [h8]
            simp [updV, hq]
        · have h7 : zT h a = 20 := hta
          have h6 : zT h a = 21 := h1
          omega
        · have h7 : zT h a = 20 := hta
          have h6 : 31 ≤ zT h a := h1
          omega
    · cases he
  · cases he

theorem zs_cast {G : zG} {own : String} {cc : ByteArray} {nL : Nat} {ini : Bool} {pc : Nat} (hd : decode cc pc = .ok (.castore, 1)) : zSnd G own cc nL ini pc (o_xast 22 (vp_nar .char)) := by
  intro ls st h pc' ls' st' h' he l p e R s m args below meth c D Q cx ad H locs cells slots lsr ok hS hc hs hR kk
  have cx0 := cx
  obtain ⟨hx, hb, hml, hown, hts, hK, hlk, hini, hcf, hB, ho⟩ := cx
  obtain ⟨rel, lr, ws⟩ := ok
  unfold o_xast at he
  split at he
  · rename_i x i a r
    split at he
    · rename_i hcond
      obtain ⟨hta, hi0, hil⟩ := hcond
      cases he
      have hin9 : vp_in i (zE h a) := fun q => q.elim hi0 (fun q => absurd q (Nat.not_le.mpr hil))
      obtain ⟨cA, g1, g2, g3⟩ := (rel.2.2.2.2.1 a).2.1 (by rw [hta]; unfold zIsX; omega)
      rw [hta] at g2 g3
      have hda := (rel.2.2.1 a (by rw [hta]; unfold zDy; omega))
      refine W.cast hx hb (a := ad a) g1 (g2 _ (fun j => .int (zI h 0 a j))) (fun q => by cases q) (by show ¬ (i < 0 ∨ (arrV _ _ _).slots.size ≤ _); rw [arrV_size]; exact hin9) rfl rfl hd fun H' e1 e2 e3 => ?_
      refine kk ad H' _ cells slots lsr (fun _ _ => rfl) (Nat.le_refl _) ⟨zRel_put rel e2 e3 (by rw [hta]; unfold zDy; omega) rfl rfl rfl ?_ ?_ ?_ ?_ ?_, lr, zw_t (zw_t (zw_t ws))⟩ (hS.put e2 e3 hda.2.1) rfl rfl
      · intro g b i hb9; first | rfl | exact if_neg (fun q => hb9 q.2.1)
      · intro g b i hb9; first | rfl | exact if_neg (fun q => hb9 q.2.1)
      · intro g b i hb9; first | rfl | exact if_neg (fun q => hb9 q.2.1)
      · intro g i b hb9; exact rel.2.1 g a i b hb9
      · refine ⟨fun h1 h2 => ?_, fun h1 => ?_, fun h1 => ?_, fun h1 h2 => ?_⟩
        · have h7 : zT h a = 22 := hta
          have h6 : zT h a ≤ 10 := h2
          omega
        · refine ⟨cA, ?_, by show ArrOfT s cA (zAt (zT h a)); rw [hta]; exact g2, by show va_RA s cA (zAt (zT h a)); rw [hta]; exact g3⟩
          show H'[ad a]? = some (vp_cell cA (zE h a, .inl (zI (zsI h 0 a i.toNatClampNeg _) 0 a)))
          rw [e1, vp_cell_i, vp_cell_i, arrV_store]
          congr 2
          funext q
          by_cases hq : q = i.toNatClampNeg
          · subst hq
            rw [zsI_at]
            simp [updV]
            try rfl
          · have h8 : zI (zsI h 0 a i.toNatClampNeg ((vp_nar .char) x)) 0 a q = zI h 0 a q := if_neg (fun z => hq z.2.2)
            rw [h8]
            simp [updV, hq]
        · have h7 : zT h a = 22 := hta
          have h6 : zT h a = 21 := h1
          omega
        · have h7 : zT h a = 22 := hta
          have h6 : 31 ≤ zT h a := h1
          omega
    · cases he
  · cases he

theorem zs_zast {G : zG} {own : String} {cc : ByteArray} {nL : Nat} {ini : Bool} {pc : Nat} (hd : decode cc pc = .ok (.bastore, 1)) : zSnd G own cc nL ini pc (o_xast 23 (vp_nar .boolean)) := by
  intro ls st h pc' ls' st' h' he l p e R s m args below meth c D Q cx ad H locs cells slots lsr ok hS hc hs hR kk
  have cx0 := cx
  obtain ⟨hx, hb, hml, hown, hts, hK, hlk, hini, hcf, hB, ho⟩ := cx
  obtain ⟨rel, lr, ws⟩ := ok
  unfold o_xast at he
  split at he
  · rename_i x i a r
    split at he
    · rename_i hcond
      obtain ⟨hta, hi0, hil⟩ := hcond
      cases he
      have hin9 : vp_in i (zE h a) := fun q => q.elim hi0 (fun q => absurd q (Nat.not_le.mpr hil))
      obtain ⟨cA, g1, g2, g3⟩ := (rel.2.2.2.2.1 a).2.1 (by rw [hta]; unfold zIsX; omega)
      rw [hta] at g2 g3
      have hda := (rel.2.2.1 a (by rw [hta]; unfold zDy; omega))
      refine W.zast hx hb (a := ad a) g1 (g2 _ (fun j => .int (zI h 0 a j))) (fun q => by cases q) (by show ¬ (i < 0 ∨ (arrV _ _ _).slots.size ≤ _); rw [arrV_size]; exact hin9) rfl rfl hd fun H' e1 e2 e3 => ?_
      refine kk ad H' _ cells slots lsr (fun _ _ => rfl) (Nat.le_refl _) ⟨zRel_put rel e2 e3 (by rw [hta]; unfold zDy; omega) rfl rfl rfl ?_ ?_ ?_ ?_ ?_, lr, zw_t (zw_t (zw_t ws))⟩ (hS.put e2 e3 hda.2.1) rfl rfl
      · intro g b i hb9; first | rfl | exact if_neg (fun q => hb9 q.2.1)
      · intro g b i hb9; first | rfl | exact if_neg (fun q => hb9 q.2.1)
      · intro g b i hb9; first | rfl | exact if_neg (fun q => hb9 q.2.1)
      · intro g i b hb9; exact rel.2.1 g a i b hb9
      · refine ⟨fun h1 h2 => ?_, fun h1 => ?_, fun h1 => ?_, fun h1 h2 => ?_⟩
        · have h7 : zT h a = 23 := hta
          have h6 : zT h a ≤ 10 := h2
          omega
        · refine ⟨cA, ?_, by show ArrOfT s cA (zAt (zT h a)); rw [hta]; exact g2, by show va_RA s cA (zAt (zT h a)); rw [hta]; exact g3⟩
          show H'[ad a]? = some (vp_cell cA (zE h a, .inl (zI (zsI h 0 a i.toNatClampNeg _) 0 a)))
          rw [e1, vp_cell_i, vp_cell_i, arrV_store]
          congr 2
          funext q
          by_cases hq : q = i.toNatClampNeg
          · subst hq
            rw [zsI_at]
            simp [updV]
            try rfl
          · have h8 : zI (zsI h 0 a i.toNatClampNeg ((vp_nar .boolean) x)) 0 a q = zI h 0 a q := if_neg (fun z => hq z.2.2)
            rw [h8]
            simp [updV, hq]
        · have h7 : zT h a = 23 := hta
          have h6 : zT h a = 21 := h1
          omega
        · have h7 : zT h a = 23 := hta
          have h6 : 31 ≤ zT h a := h1
          omega
    · cases he
  · cases he

theorem zs_bast {G : zG} {own : String} {cc : ByteArray} {nL : Nat} {ini : Bool} {pc : Nat} (hd : decode cc pc = .ok (.bastore, 1)) : zSnd G own cc nL ini pc (o_xast 24 (vp_nar .byte)) := by
  intro ls st h pc' ls' st' h' he l p e R s m args below meth c D Q cx ad H locs cells slots lsr ok hS hc hs hR kk
  have cx0 := cx
  obtain ⟨hx, hb, hml, hown, hts, hK, hlk, hini, hcf, hB, ho⟩ := cx
  obtain ⟨rel, lr, ws⟩ := ok
  unfold o_xast at he
  split at he
  · rename_i x i a r
    split at he
    · rename_i hcond
      obtain ⟨hta, hi0, hil⟩ := hcond
      cases he
      have hin9 : vp_in i (zE h a) := fun q => q.elim hi0 (fun q => absurd q (Nat.not_le.mpr hil))
      obtain ⟨cA, g1, g2, g3⟩ := (rel.2.2.2.2.1 a).2.1 (by rw [hta]; unfold zIsX; omega)
      rw [hta] at g2 g3
      have hda := (rel.2.2.1 a (by rw [hta]; unfold zDy; omega))
      refine W.bast hx hb (a := ad a) g1 (g2 _ (fun j => .int (zI h 0 a j))) (fun q => by cases q) (by show ¬ (i < 0 ∨ (arrV _ _ _).slots.size ≤ _); rw [arrV_size]; exact hin9) rfl rfl hd fun H' e1 e2 e3 => ?_
      refine kk ad H' _ cells slots lsr (fun _ _ => rfl) (Nat.le_refl _) ⟨zRel_put rel e2 e3 (by rw [hta]; unfold zDy; omega) rfl rfl rfl ?_ ?_ ?_ ?_ ?_, lr, zw_t (zw_t (zw_t ws))⟩ (hS.put e2 e3 hda.2.1) rfl rfl
      · intro g b i hb9; first | rfl | exact if_neg (fun q => hb9 q.2.1)
      · intro g b i hb9; first | rfl | exact if_neg (fun q => hb9 q.2.1)
      · intro g b i hb9; first | rfl | exact if_neg (fun q => hb9 q.2.1)
      · intro g i b hb9; exact rel.2.1 g a i b hb9
      · refine ⟨fun h1 h2 => ?_, fun h1 => ?_, fun h1 => ?_, fun h1 h2 => ?_⟩
        · have h7 : zT h a = 24 := hta
          have h6 : zT h a ≤ 10 := h2
          omega
        · refine ⟨cA, ?_, by show ArrOfT s cA (zAt (zT h a)); rw [hta]; exact g2, by show va_RA s cA (zAt (zT h a)); rw [hta]; exact g3⟩
          show H'[ad a]? = some (vp_cell cA (zE h a, .inl (zI (zsI h 0 a i.toNatClampNeg _) 0 a)))
          rw [e1, vp_cell_i, vp_cell_i, arrV_store]
          congr 2
          funext q
          by_cases hq : q = i.toNatClampNeg
          · subst hq
            rw [zsI_at]
            simp [updV]
            try rfl
          · have h8 : zI (zsI h 0 a i.toNatClampNeg ((vp_nar .byte) x)) 0 a q = zI h 0 a q := if_neg (fun z => hq z.2.2)
            rw [h8]
            simp [updV, hq]
        · have h7 : zT h a = 24 := hta
          have h6 : zT h a = 21 := h1
          omega
        · have h7 : zT h a = 24 := hta
          have h6 : 31 ≤ zT h a := h1
          omega
    · cases he
  · cases he

theorem zs_last {G : zG} {own : String} {cc : ByteArray} {nL : Nat} {ini : Bool} {pc : Nat} (hd : decode cc pc = .ok (.lastore, 1)) : zSnd G own cc nL ini pc (o_last) := by
  intro ls st h pc' ls' st' h' he l p e R s m args below meth c D Q cx ad H locs cells slots lsr ok hS hc hs hR kk
  have cx0 := cx
  obtain ⟨hx, hb, hml, hown, hts, hK, hlk, hini, hcf, hB, ho⟩ := cx
  obtain ⟨rel, lr, ws⟩ := ok
  unfold o_last at he
  split at he
  · rename_i x i a r
    split at he
    · rename_i hcond
      obtain ⟨hta, hi0, hil⟩ := hcond
      cases he
      have hin9 : vp_in i (zE h a) := fun q => q.elim hi0 (fun q => absurd q (Nat.not_le.mpr hil))
      obtain ⟨cA, g1, g2, g3⟩ := (rel.2.2.2.2.1 a).2.2.1 hta
      have hda := (rel.2.2.1 a (by rw [hta]; unfold zDy; omega))
      refine W.last hx hb (a := ad a) g1 (g2 _ (fun j => .long (zL h 0 a j))) (fun q => by cases q) (by show ¬ (i < 0 ∨ (arrV _ _ _).slots.size ≤ _); rw [arrV_size]; exact hin9) rfl rfl hd fun H' e1 e2 e3 => ?_
      refine kk ad H' _ cells slots lsr (fun _ _ => rfl) (Nat.le_refl _) ⟨zRel_put rel e2 e3 (by rw [hta]; unfold zDy; omega) rfl rfl rfl ?_ ?_ ?_ ?_ ?_, lr, zw_t (zw_t (zw_t ws))⟩ (hS.put e2 e3 hda.2.1) rfl rfl
      · intro g b i hb9; first | rfl | exact if_neg (fun q => hb9 q.2.1)
      · intro g b i hb9; first | rfl | exact if_neg (fun q => hb9 q.2.1)
      · intro g b i hb9; first | rfl | exact if_neg (fun q => hb9 q.2.1)
      · intro g i b hb9; exact rel.2.1 g a i b hb9
      · refine ⟨fun h1 h2 => ?_, fun h1 => ?_, fun h1 => ?_, fun h1 h2 => ?_⟩
        · have h7 : zT h a = 21 := hta
          have h6 : zT h a ≤ 10 := h2
          omega
        · have h8 := zIsX_rng h1
          have h7 : zT h a = 21 := hta
          exact absurd h7 h8.2.2
        · refine ⟨cA, ?_, g2, g3⟩
          show H'[ad a]? = some (vp_cell cA (zE h a, .inr (.inl (zL (zsL h 0 a i.toNatClampNeg x) 0 a))))
          rw [e1, vp_cell_l, vp_cell_l, arrV_store]
          congr 2
          funext q
          by_cases hq : q = i.toNatClampNeg
          · subst hq
            rw [zsL_at]
            simp [updV]
          · have h8 : zL (zsL h 0 a i.toNatClampNeg x) 0 a q = zL h 0 a q := if_neg (fun z => hq z.2.2)
            rw [h8]
            simp [updV, hq]
        · have h7 : zT h a = 21 := hta
          have h6 : 31 ≤ zT h a := h1
          omega
    · cases he
  · cases he

theorem zs_aast {G : zG} {own : String} {cc : ByteArray} {nL : Nat} {ini : Bool} {pc : Nat} {t u k : Nat} {r0 : vw_C} (h31 : 31 ≤ t) (h33 : t ≤ 33) (hk10 : k < 10) (hu : u = k + 1) (hc0 : vwCl[k]? = some r0) (hr0 : r0.1 = zAn t) (hd : decode cc pc = .ok (.aastore, 1)) : zSnd G own cc nL ini pc (o_aast t u) := by
  intro ls st h pc' ls' st' h' he l p e R s m args below meth c D Q cx ad H locs cells slots lsr ok hS hc hs hR kk
  have cx0 := cx
  obtain ⟨hx, hb, hml, hown, hts, hK, hlk, hini, hcf, hB, ho⟩ := cx
  obtain ⟨rel, lr, ws⟩ := ok
  unfold o_aast at he
  split at he
  · rename_i b i a r
    split at he
    · rename_i hcond
      obtain ⟨hta, hi0, hil, htb⟩ := hcond
      cases he
      have hin9 : vp_in i (zE h a) := fun q => q.elim hi0 (fun q => absurd q (Nat.not_le.mpr hil))
      obtain ⟨cA, g1, g2, g3⟩ := (rel.2.2.2.2.1 a).2.2.2 (by omega) (by omega)
      rw [hta, ← hr0] at g2 g3
      have hP : va_at D vwCl (ad b, .inr (k, zFs ad h k b)) H := by
        have h9 := (rel.2.2.2.2.1 b).1 (by omega) (by omega)
        rw [htb, hu] at h9
        exact h9
      have hda := (rel.2.2.1 a (by rw [hta]; unfold zDy; omega))
      obtain ⟨r', hr', cellV, f1, f2, f3, -⟩ := hP
      have hcls := (hK.1 k r0 hc0).2
      obtain ⟨kA, comp, k1, k2, k3, -⟩ := g3
      have hcomp : comp = D.1 k := Option.some.inj (k3.symm.trans hcls.1)
      subst hcomp
      obtain ⟨kC, hkC, -⟩ := hcls.2
      have hlt : i.toNatClampNeg < zE h a := hil
      refine W.aast hx hb (a := ad a) g1 (fun q h => by cases h) (fun h => by cases h) k1 k2 rfl hkC ⟨hi0, by show _ < (arrV _ _ _).slots.size; rw [arrV_size]; exact hlt⟩ f1 (fun q h => by rw [f3] at h; cases h) (by rw [f2]; exact hkC) (by rw [f2]; exact va_assign hcls) rfl rfl hd fun H' e1 e2 e3 => ?_
      refine kk ad H' _ cells slots lsr (fun _ _ => rfl) (Nat.le_refl _) ⟨zRel_put rel e2 e3 (by rw [hta]; unfold zDy; omega) rfl rfl rfl ?_ ?_ ?_ ?_ ?_, lr, zw_t (zw_t (zw_t ws))⟩ (hS.put e2 e3 hda.2.1) rfl rfl
      · intro g b i hb9; first | rfl | exact if_neg (fun q => hb9 q.2.1)
      · intro g b i hb9; first | rfl | exact if_neg (fun q => hb9 q.2.1)
      · intro g b i hb9; first | rfl | exact if_neg (fun q => hb9 q.2.1)
      · intro g i9 x hb9
        by_cases hq : g = 0 ∧ a = a ∧ i9 = i.toNatClampNeg
        · have h8 : zR (zsR h 0 a i.toNatClampNeg (some b)) g a i9 = some b := if_pos hq
          rw [h8] at hb9
          injection hb9 with hb9
          subst hb9
          exact zw_h ws
        · have h8 : zR (zsR h 0 a i.toNatClampNeg (some b)) g a i9 = zR h g a i9 := if_neg hq
          rw [h8] at hb9
          exact rel.2.1 g a i9 x hb9
      · refine ⟨fun h1 h2 => ?_, fun h1 => ?_, fun h1 => ?_, fun h1 h2 => ?_⟩
        · have h7 : zT h a = t := hta
          have h6 : zT h a ≤ 10 := h2
          omega
        · have h8 := zIsX_rng h1
          have h7 : zT h a = t := hta
          have h6 : zT h a ≤ 24 := h8.2.1
          omega
        · have h7 : zT h a = t := hta
          have h6 : zT h a = 21 := h1
          omega
        · refine ⟨cA, ?_, by show ArrOfT s cA (.object (zAn (zT h a))); rw [hta, ← hr0]; exact g2, by show va_RA s cA (.object (zAn (zT h a))); rw [hta, ← hr0]; exact ((rel.2.2.2.2.1 a).2.2.2 (by omega) (by omega)).elim (fun cB q => by have q1 : H[ad a]? = _ := g1; have q2 : H[ad a]? = _ := q.1; have q3 := Option.some.inj (q1.symm.trans q2); have q4 : cA = cB := congrArg Cell.cls q3; rw [q4, hr0, ← hta]; exact q.2.2)⟩
          show H'[ad a]? = some (vp_cell cA (zE h a, .inr (.inr (.inr (.inr (fun q => (zR (zsR h 0 a i.toNatClampNeg (some b)) 0 a q).map ad))))))
          rw [e1, vp_cell_q, vp_cell_q, arrV_store]
          congr 2
          funext q
          by_cases hq : q = i.toNatClampNeg
          · subst hq
            rw [zsR_at]
            simp [updV]
            try rfl
          · have h8 : zR (zsR h 0 a i.toNatClampNeg (some b)) 0 a q = zR h 0 a q := if_neg (fun z => hq z.2.2)
            rw [h8]
            simp [updV, hq]
    · cases he
  · cases he
