/-! ===== from frames to contracts; call sites; ends; throws ===== -/
def zsm (o : Value) (ad : Nat → Nat) : Slot → Slot
  | .val v => .val (zmv o ad v)
  | x => x
theorem zlg_map {o : Value} (ho : zOV o) (ad : Nat → Nat) (as : List Value) : lg_sl (as.map (zmv o ad)) = (lg_sl as).map (zsm o ad) := by
  induction as with
  | nil => rfl
  | cons v as ih =>
    have e1 : lg_sl ((v :: as).map (zmv o ad)) = (if (zmv o ad v).category = 2 then [Slot.val (zmv o ad v), .second] else [.val (zmv o ad v)]) ++ lg_sl (as.map (zmv o ad)) := rfl
    have e2 : lg_sl (v :: as) = (if v.category = 2 then [Slot.val v, .second] else [.val v]) ++ lg_sl as := rfl
    rw [e1, e2, ih, List.map_append, zmv_cat ho]
    by_cases h : v.category = 2
    · rw [if_pos h, if_pos h]; rfl
    · rw [if_neg h, if_neg h]; rfl
theorem zlg_mem {as : List Value} {v : Value} (h : Slot.val v ∈ lg_sl as) : v ∈ as := by
  obtain ⟨w, hw, h2⟩ := List.mem_flatMap.mp h
  by_cases hc : w.category = 2
  · rw [if_pos hc] at h2
    rcases List.mem_cons.mp h2 with e | e
    · injection e with e; rw [e]; exact hw
    · rcases List.mem_cons.mp e with e | e
      · cases e
      · cases e
  · rw [if_neg hc] at h2
    rcases List.mem_cons.mp h2 with e | e
    · injection e with e; rw [e]; exact hw
    · cases e
def zEn (nL : Nat) (as : List Value) : List Slot := lg_sl as ++ List.replicate (nL - (lg_sl as).length) Slot.unset
theorem zEn_ok {o : Value} (ho : zOV o) {ad : Nat → Nat} {n nL : Nat} {as : List Value} (hw : ∀ v ∈ as, zwf n v) (hf : (lg_sl as).length ≤ nL) :
    zLR o ad n nL (zEn nL as) ((lg_sl (as.map (zmv o ad)) ++ List.replicate (nL - (lg_sl (as.map (zmv o ad))).length) Slot.unset).toArray) := by
  have hlen : (lg_sl (as.map (zmv o ad))).length = (lg_sl as).length := by rw [zlg_map ho, List.length_map]
  obtain ⟨h1, h2, -⟩ := lv_entry (as.map (zmv o ad)) (n := nL) (by rw [hlen]; exact hf)
  have hmap : (lg_sl (as.map (zmv o ad)) ++ List.replicate (nL - (lg_sl (as.map (zmv o ad))).length) Slot.unset) = (zEn nL as).map (zsm o ad) := by
    unfold zEn
    rw [hlen, zlg_map ho, List.map_append, List.map_replicate]
    rfl
  have hat : ∀ i : Nat, ((lg_sl (as.map (zmv o ad)) ++ List.replicate (nL - (lg_sl (as.map (zmv o ad))).length) Slot.unset).toArray)[i]? = ((zEn nL as)[i]?).map (zsm o ad) := fun i => by
    rw [List.getElem?_toArray, hmap, List.getElem?_map]
  refine ⟨⟨h1, h2, fun q hq => ?_⟩, fun i v hv hc => ?_, fun i v hv => ?_, ?_⟩
  · obtain ⟨i, w⟩ := q
    obtain ⟨v, hv, rfl⟩ := zAL_mem.mp hq
    rw [hat i, hv]; rfl
  · have h3 := h2.1 i (zmv o ad v) (by rw [hat i, hv]; rfl) (by rw [zmv_cat ho]; exact hc)
    rw [hat (i + 1)] at h3
    cases hz : (zEn nL as)[i + 1]? with
    | none => rw [hz] at h3; cases h3
    | some x =>
      rw [hz] at h3
      cases x with
      | second => rfl
      | unset => cases h3
      | val y => cases h3
  · have hm := List.mem_of_getElem? hv
    rcases List.mem_append.mp hm with hm | hm
    · exact hw v (zlg_mem hm)
    · have := List.eq_of_mem_replicate hm
      cases this
  · unfold zEn
    rw [List.length_append, List.length_replicate]
    omega
theorem zRel_grow {G : zG} {D : va_G} {s : State} {ad : Nat → Nat} {h : zH} {H H1 : Heap} (rel : zRel G D s ad h H) (hz : H.size ≤ H1.size) (hq : ∀ q : Nat, q < H.size → H1[q]? = H[q]?) : zRel G D s ad h H1 := by
  obtain ⟨r1, r2, r3, r4, r5, r6⟩ := rel
  refine ⟨Nat.le_trans r1 hz, r2, fun a ha => ⟨(r3 a ha).1, (r3 a ha).2.1, Nat.lt_of_lt_of_le (r3 a ha).2.2 hz⟩, r4, fun a => ?_, r6⟩
  by_cases hd : zDy (zT h a)
  · exact zcell_congr rfl rfl (fun _ _ => rfl) (fun _ _ => rfl) (fun _ _ => rfl) rfl (hq _ (r3 a hd).2.2) (r5 a)
  · exact zcell_nd hd
/-- a handler catches -/
def zCatW (G : zG) (M : zMI) (pc : Nat) (E : String) (k : Nat) : Prop :=
  ∀ (l : Launch) (p : Program) (e : Env) (R : Room) (s : State) (m : MethodId) (args : Array Value) (below : List Frame) (meth : Method) (c : Code) (D : va_G) (Q : State → Prop), zCx G M.1.cls M.2.1 M.2.2.1 (zini M) D p s m args meth c → c.exceptionTable.toList = tableOf M.2.2.2.2 →
  ∀ (H : Heap) (locs : List Loc) (cells slots : Nat) (lsr : Array Slot) (rest : List Value) (qa : Nat) (ce : Cell), H[qa]? = some ce → ce.vm = .none → s.vm.findClass E = some ce.cls → W p l e R s m args below meth c H locs cells slots Q (F0 m k lsr [.ref qa]) → vx_W p l e R s m args below meth c H locs cells slots Q (F0 m pc lsr rest) qa
/-- the handlers: none in a plain method; in one with a table all that come are caught -/
def zHs (G : zG) (P : zP) (M : Nat → zMI) : Prop :=
  (∀ y, (M y).2.2.2.2 = [] → ∀ pc E k, P.2.2.2 y pc E ≠ some (some k)) ∧ (∀ y, (M y).2.2.2.2 ≠ [] → ∀ pc E, P.2.2.2 y pc E ≠ some none) ∧ (∀ y, (M y).2.2.2.2 ≠ [] → ∀ pc E k, P.2.2.2 y pc E = some (some k) → zCatW G (M y) pc E k) ∧ (∀ y, (M y).2.2.2.2 ≠ [] → ∀ pc ls st h E h', P.1 y pc pc ls st h ≠ some (.inr (.inl (.inr E, h'))))
theorem zHs_nr {G : zG} {P : zP} {M : Nat → zMI} (hh : zHs G P M) : ∀ n r y pc ls st h q, (M y).2.2.2.2 ≠ [] → zRun P n r y pc ls st h = some q → ∃ v, q.1 = .inl v := by
  intro n
  induction n with
  | zero => intro r y pc ls st h q hy he; cases he
  | succ n ih =>
    intro r y pc ls st h q hy he
    have he : zStep P (zRun P n) r y pc ls st h = some q := he
    unfold zStep at he
    cases hc : P.1 y pc pc ls st h with
    | none => rw [hc] at he; cases he
    | some a =>
      rw [hc] at he
      rcases a with g | q0 | c
      · exact ih _ _ _ _ _ _ _ hy he
      · injection he with he
        subst he
        obtain ⟨v | E, h'⟩ := q0
        · exact ⟨v, rfl⟩
        · exact absurd hc (hh.2.2.2 y hy pc ls st h E h')
      · dsimp only at he
        by_cases hr : P.2.1 c.1 c.2.1 < r
        · rw [if_pos hr] at he
          unfold zCont at he
          split at he
          · cases he
          · exact ih _ _ _ _ _ _ _ hy he
          · split at he
            · cases he
            · rename_i hx
              exact absurd hx (hh.2.1 y hy _ _)
            · exact ih _ _ _ _ _ _ _ hy he
        · rw [if_neg hr] at he; cases he
theorem zMS_of {G : zG} {P : zP} {M : Nat → zMI} (hG : zGst G) (hov : zOV G.2.2.2.2) (hP : ∀ y pc, zOkOp G M (M y) pc (P.1 y pc)) (hent : ∀ y as, P.2.2.1 y as = zEn (M y).2.2.1 as) (hhand : zHs G P M) {n : Nat} (FS : zFS G P M n) : zMS G P M n := by
  intro y as h q hM hfit he D l ad H0 hl
  have mono := zRun_mono hP _ _ _ _ _ _ _ _ he
  unfold zMt
  have core : ∀ p e s m args below meth c s₁, BodyLoose p l (M y).1 (headSpec (zWs (M y)) (zRm (P.2.1 y as) (zC q.2 - zC h) (zS q.2 - zS h))) (M y).2.1 (M y).2.2.1 (M y).2.2.2.1 e s m args below meth c s₁ → c.maxLocals = (M y).2.2.1 → ((M y).2.2.2.2 = [] → ∀ x ∈ c.exceptionTable.toList, False) → ((M y).2.2.2.2 ≠ [] → c.exceptionTable.toList = tableOf (M y).2.2.2.2) → zPc G D ad h as H0 args s →
      W p l e (headSpec (zWs (M y)) (zRm (P.2.1 y as) (zC q.2 - zC h) (zS q.2 - zS h))).room s m args below meth c s.heap [] 0 0 (vx_MQ below (zQc G D ad h q) (zXC G D ad h q) args s (zC q.2 - zC h) (zS q.2 - zS h) (zA G)) (entryFrame m args (M y).2.2.1) := by
   intro p e s m args below meth c s₁ B hml hnoex htab hv
   obtain ⟨rfl, rfl, rel, hK, hG1, hB, hw⟩ := hv
   have hts : ∀ w ∈ zTB, w.before _ s = true := fun w hw => atoms_spec (ws := zWs (M y)) B.pre w (List.mem_cons_of_mem _ hw)
   have cx : zCx G (M y).1.cls (M y).2.1 (M y).2.2.1 (zini (M y)) D p s m (as.map (zmv G.2.2.2.2 ad)).toArray meth c :=
     ⟨B.exec, B.bytes, hml, findClass_of_methodNamed B.named, hts, hK, B.notSynchronized, fun hi => (name_of_methodNamed B.named B.method).1.trans (of_decide_eq_true hi), hG1, hB, hov⟩
   rw [lg_entry_eq]
   rw [hent] at he
   have hS0 : va_S (zA G) s.heap s.heap [] := va_S.rf
   refine FS _ _ _ _ _ _ _ he l p e _ s m _ below meth c D _ hl cx ad s.heap [] 0 0 _ ⟨rel, zEn_ok hov hw hfit, fun v hv => by cases hv⟩ hS0 ?_ ?_ (Nat.le_refl _) (Nat.le_refl _) ?_ ?_ ?_
   · show 0 + zC q.2 ≤ (zC q.2 - zC h) + zC h
     omega
   · show 0 + zS q.2 ≤ (zS q.2 - zS h) + zS h
     omega
   · intro pc' ls' st' h' hf ad' H' locs' cells' slots' lsr' hx' hn' ok' hS' hc' hs'
     rcases hP y pc' with ⟨h1, -⟩ | h1 | ⟨E, h1, h2⟩ | h1
     · obtain ⟨g, e1, -⟩ := h1 _ _ _ _ _ hf
       cases e1
     · obtain ⟨v, e1, hr⟩ := h1 _ _ _ _ hf
       injection e1 with e1; injection e1 with e1
       subst e1
       dsimp only at mono hc' hs'
       have hS2 := hS'.2.2
       have hwv : ∀ w, v = some w → zwf (zN h') w := by
         intro w hw3
         rcases hr with ⟨-, x, ty, e1, e2, -⟩ | ⟨-, x, e1, e2, -⟩ | ⟨-, x, ty, e1, e2, -⟩ | ⟨-, e1, e2, -⟩
         · rw [e2] at hw3; injection hw3 with hw3; rw [← hw3]; trivial
         · rw [e2] at hw3; injection hw3 with hw3; rw [← hw3]; trivial
         · rw [e2] at hw3; injection hw3 with hw3; rw [← hw3]; exact ok'.2.2 x (by rw [e1]; exact List.mem_singleton.mpr rfl)
         · rw [e2] at hw3; cases hw3
       have fin : ∀ w : Option Value, v = w → ∀ t : State, t.heap = H' → s.WarmedH t.vm → zQc G D ad h (.inl v, h') (as.map (zmv G.2.2.2.2 ad)).toArray s (.returned (w.map (zmv G.2.2.2.2 ad'))) t := fun w hw2 t ht hW =>
         ⟨ad', v, rfl, by rw [hw2], hx', by rw [ht]; exact zRel_moved hW.alike ok'.1, hwv, hS'.F ht⟩
       refine vx_ret (W.widen (k := zC h' - zC h) (n := zS h' - zS h) (by omega) (by omega) ?_)
       rcases hr with ⟨hd, x, ty, e1, e2, e3, e4⟩ | ⟨hd, x, e1, e2, e3⟩ | ⟨hd, x, ty, e1, e2, e3, e4, e5⟩ | ⟨hd, e1, e2, e3⟩
       · subst e1
         exact W.zret B.exec B.bytes (B.returns.trans e3) e4 (fin (some (.int x)) e2) hS2 hd B.notSynchronized
       · subst e1
         exact W.lret B.exec B.bytes (B.returns.trans e3) (fin (some (.long x)) e2) hS2 hd B.notSynchronized
       · subst e1
         exact W.aret B.exec B.bytes (B.returns.trans e4) e5 (zmv_isR hov ad' e3) (fin (some x) e2) hS2 hd B.notSynchronized
       · subst e1
         exact W.vret B.exec B.bytes (B.returns.trans e3) (fin none e2) hS2 hd B.notSynchronized
     · obtain ⟨e1, hst⟩ := h1 _ _ _ _ hf
       injection e1 with e1; injection e1 with e1
       subst e1
       dsimp only at mono hc' hs'
       have z1 : zC (zExc h') = zC h' + 1 := rfl
       have z2 : zS (zExc h') = zS h' + 6 := rfl
       refine h2 l p e _ s m _ below meth c D hl cx (hnoex (Classical.byContradiction fun hh => hhand.2.2.2 y hh pc' ls' st' h' E (zExc h') hf)) H' locs' cells' slots' _ _ lsr' _ _ _ ok'.2.1.1.1 hS' (Nat.le_add_left _ _) (Nat.le_add_left _ _) ?_ ?_ (by rw [List.length_map]; exact hst) ?_ ?_ ?_
       · show cells' + 1 ≤ zC (zExc h') - zC h
         omega
       · show slots' + 6 ≤ zS (zExc h') - zS h
         omega
       · show cells' + 1 ≤ zC (zExc h') - zC h
         omega
       · show slots' + 6 ≤ zS (zExc h') - zS h
         omega
       · intro t hW hz hq
         refine ⟨ad', rfl, hx', ?_, ?_⟩
         · exact zRel_moved hW (zRel_grow ok'.1 hz hq)
         · exact ⟨Nat.le_trans hS'.1 hz, fun q h1 h2 => (hq q (Nat.lt_of_lt_of_le h1 hS'.1)).trans (hS'.2.1 q h1 h2)⟩
     · obtain ⟨y', as', rest, e1, -⟩ := h1 _ _ _ _ hf
       cases e1
   · intro E pc' hq hh ad' H' locs' cells' slots' lsr' rest qa ce hx' rel' hS' hc' hs' hce hcv hcl
     have hpl : (M y).2.2.2.2 = [] := Classical.byContradiction fun hn => hhand.2.1 y hn pc' E hh
     refine vx_out (E := E) (fun x hx => (hnoex hpl x hx).elim) B.notSynchronized hce hcv hcl (fun t ht hW => ⟨ad', hq, hx', by rw [ht]; exact zRel_moved hW rel', hS'.F ht⟩) hS'.2.2 (by omega) (by omega)
   · intro E pc' k hh H' locs' cells' slots' lsr' rest qa ce hce hcv hcl kw
     have hn : (M y).2.2.2.2 ≠ [] := fun hn => hhand.1 y hn pc' E k hh
     exact hhand.2.2.1 y hn pc' E k hh l p e _ s m _ below meth c D _ cx (htab hn) H' locs' cells' slots' lsr' rest qa ce hce hcv hcl kw
  by_cases hpl : (M y).2.2.2.2 = []
  · refine vx_ofW (cc := (M y).2.1) (maxL := (M y).2.2.1) (ret := (M y).2.2.2.1) (ws' := zTB) hM.2.2.2.2 (by unfold zWs; rw [zcw_pl hpl]) ?_
    intro p e s m args below meth c s₁ B hml hnoex hv
    exact core p e s m args below meth c s₁ B hml (fun _ => hnoex) (fun hn => absurd hpl hn) hv
  · refine vx_ofWH (cc := (M y).2.1) (maxL := (M y).2.2.1) (ret := (M y).2.2.2.1) (hh := (M y).2.2.2.2) (ws' := zTB) hM.2.2.2.2 (by unfold zWs; rw [zcw_hh hpl]) ?_
    intro p e s m args below meth c s₁ B hml hv
    exact core p e s m args below meth c s₁ B hml (fun hn => absurd hn hpl) (fun _ => vx_table (x := (M y).1) B (atoms_spec (ws := zWs (M y)) B.pre _ (by unfold zWs; rw [zcw_hh hpl]; exact List.mem_cons_self))) hv
theorem zFS_all {G : zG} {P : zP} {M : Nat → zMI} (hG : zGst G) (hov : zOV G.2.2.2.2) (hP : ∀ y pc, zOkOp G M (M y) pc (P.1 y pc)) (hent : ∀ y as, P.2.2.1 y as = zEn (M y).2.2.1 as) (hhand : zHs G P M) : ∀ n, zFS G P M n
  | 0 => zFS_zero G P M
  | n + 1 => zFS_succ (zHs_nr hhand) hP (zFS_all hG hov hP hent hhand n) (zMS_of hG hov hP hent hhand (zFS_all hG hov hP hent hhand n))
/-! call sites -/
theorem ztake {st : List Value} {n : Nat} {x : Value} (h : st[n]? = some x) : (st.take (n + 1)).reverse = x :: (st.take n).reverse ∧ st = st.take n ++ x :: st.drop (n + 1) := by
  have hl : n < st.length := (List.getElem?_eq_some_iff.mp h).1
  have e1 : st.take (n + 1) = st.take n ++ [x] := by rw [List.take_succ, h]; rfl
  refine ⟨by rw [e1, List.reverse_append]; rfl, ?_⟩
  have := List.take_append_drop (n + 1) st
  rw [e1] at this
  rw [List.append_assoc] at this
  exact this.symm
def zRecv (G : zG) (C : String) (u w : Nat) : Prop := ∀ (D : va_G) (s : State) (ad : Nat → Nat) (h : zH) (H : Heap) (locs : List Loc) (a : Nat), va_K D vwCl [] s → G.1 s → va_S (zA G) s.heap H locs → zRel G D s ad h H → (zT h a = u ∨ zT h a = w) → ∃ cell : Cell, H[ad a]? = some cell ∧ cell.vm.isStatics = false ∧ s.vm.findClass C = some cell.cls
theorem zRecv_k {G : zG} {C : String} {T : u_T} {N k : Nat} (hc0 : vwCl[k]? = some (C, T, N)) (hk10 : k < 10) : zRecv G C (k + 1) (k + 1) := by
  intro D s ad h H locs a hK hG hS rel ht
  have ht : zT h a = k + 1 := ht.elim id id
  have hP : va_at D vwCl (ad a, .inr (k, zFs ad h k a)) H := by
    have h9 := (rel.2.2.2.2.1 a).1 (by rw [ht]; omega) (by rw [ht]; omega)
    rw [ht] at h9
    exact h9
  exact va_recv hK (zP1 hP) (q0 := 0) hc0 rfl
theorem zlen8 {o : Value} {ad : Nat → Nat} {r : List Value} (h : r.length ≤ 4) (p : Nat) (m : MethodId) (ls : Array Slot) (st : List Value) : 2 * (F0 m p ls st).monitorRoom + ((r.map (zmv o ad)).map fun v => v.category).sum ≤ 8 := by
  have h5 := zcat_sum (r.map (zmv o ad))
  rw [List.length_map] at h5
  show 2 * 0 + _ ≤ 8
  omega
theorem zdesc {y : MethodName} {n : Nat} (h : (parseMethodDescriptor y.desc).map (fun d => d.parameters.length) = some n) : ∀ sig, parseMethodDescriptor y.desc = some sig → n = sig.parameters.length := fun sig hs => by
  rw [hs] at h
  exact (Option.some.inj h).symm
theorem zpre {G : zG} {D : va_G} {s : State} {ad : Nat → Nat} {h : zH} {H : Heap} {locs : List Loc} {as : List Value} (hG : zGst G) (rel : zRel G D s ad h H) (hK : va_K D vwCl [] s) (hcf : G.1 s) (hS : va_S (zA G) s.heap H locs) (hw : ∀ v ∈ as, zwf (zN h) v) : ∀ U : State, U.heap = H → s.WarmedH U.vm → zPc G D ad h as H (as.map (zmv G.2.2.2.2 ad)).toArray U := fun U hU hW =>
  ⟨rfl, hU, zRel_moved hW.alike rel, va_K.moved hW.alike hK, hG s U hW (by rw [hU]; exact hS.1) (fun q h1 h2 => by rw [hU]; exact hS.2.1 q h1 h2) hcf, rel.1, hw⟩
theorem zcall_V {G : zG} (hG : zGst G) {M : Nat → zMI} {Mc My : zMI} {pc y' n u w idx : Nat} {C : String} (hy : M y' = My) (hM : zMok My) (hpl : My.2.2.2.2 = []) (hd : decode Mc.2.1 pc = .ok (.invokevirtual idx, 3)) (hl : Cond.methodLink Mc.1.cls idx My.1 ∈ zTB) (hi : Cond.instanceMethod My.1 ∈ zTB) (hse : Cond.selects C My.1 My.1 ∈ zTB) (hn : (parseMethodDescriptor My.1.desc).map (fun d => d.parameters.length) = some n) (hrc : zRecv G C u w) : zCallOK G M Mc pc (o_cv y' n My.2.2.1 u w) := by
  subst hy
  have hcw := zcw_pl hpl
  have hcode := hM.1
  rw [hcw] at hcode
  have hws : ∀ {s : State} {args : Array Value}, (∀ w ∈ zTB, w.before args s = true) → ∀ w ∈ Cond.code (M y').1 (M y').2.1 (M y').2.2.1 (M y').2.2.2.1 :: zTB, ∀ (a' : Array Value) (U : State), s.WarmedH U.vm → w.before a' U = true := fun hts => by have h9 := zws_ok hts hM; unfold zWs at h9; rw [hcw] at h9; exact h9
  intro ls st h a he
  unfold o_cv at he
  split at he
  · rename_i hb
    have hb2 := (Bool.and_eq_true _ _).mp hb
    split at he
    · rename_i x hx
      split at he
      · rename_i ht
        cases he
        obtain ⟨e1, e2⟩ := ztake hx
        refine ⟨y', _, _, rfl, hM, Nat.le_of_ble_eq_true hb2.2, fun v hv => Or.inr (List.mem_of_mem_take (List.mem_reverse.mp hv)), fun v hv => List.mem_of_mem_drop hv, ?_⟩
        intro l p e R s m args below meth c D cx ad H locs cells slots lsr r q ok hS hMt hnr hf1 hf2 hc hs
        obtain ⟨hx0, hb0, hml, hown, hts, hK, hlk, hini, hcf, hB, ho⟩ := cx
        unfold zMt zWs at hMt
        rw [hcw] at hMt
        rw [e1] at hMt ⊢
        have hwas : ∀ v ∈ Value.ref x :: (st.take n).reverse, zwf (zN h) v := fun v hv => by
          rw [← e1] at hv
          exact ok.2.2 v (List.mem_of_mem_take (List.mem_reverse.mp hv))
        have hlenn : (st.take n).length = n := by
          rw [List.length_take]
          have := (List.getElem?_eq_some_iff.mp hx).1
          omega
        exact vx_runV (As := ((st.take n).reverse).map (zmv G.2.2.2.2 ad)) (b := ad x) (C := C) ⟨hx0, hb0, hml, hown, hts⟩ hMt ⟨⟨rfl, rfl, hf1, by have := hM.2.2.2.1; show 8 + ((M y').2.2.1 + 11) + (40 * r + 200) ≤ R.locals; omega, hws hts, List.mem_cons_self, hts _ hcode, hts _ hM.2.1, hM.2.2.1, zdesc hn, hts _ hl⟩, hts _ hi, hts _ hse⟩
          ⟨zPc_blind hG, hrc D s ad h H locs x hK hcf hS ok.1 ht, zpre hG ok.1 hK hcf hS hwas⟩ rfl (by rw [List.length_map, List.length_reverse, hlenn]) ok.2.1.1.1 (by
            show st.map (zmv G.2.2.2.2 ad) = _
            rw [← List.map_reverse, List.reverse_reverse]
            conv => lhs; rw [e2]
            rw [List.map_append]
            rfl) (zlen8 (by rw [List.length_drop]; exact Nat.le_of_ble_eq_true hb2.1) _ _ _ _) hd ⟨hc, hs⟩
      · cases he
    · cases he
  · cases he
theorem zcall_I {G : zG} (hG : zGst G) {M : Nat → zMI} {Mc My : zMI} {pc y' n u w idx : Nat} (hy : M y' = My) (hM : zMok My) (hpl : My.2.2.2.2 = []) (hd : decode Mc.2.1 pc = .ok (.invokespecial idx, 3)) (hl : Cond.methodLink Mc.1.cls idx My.1 ∈ zTB) (hi : Cond.instanceMethod My.1 ∈ zTB) (hnm : My.1.name = "<init>") (hret : My.2.2.2.1 = none) (hn : (parseMethodDescriptor My.1.desc).map (fun d => d.parameters.length) = some n) : zCallOK G M Mc pc (o_cv y' n My.2.2.1 u w) := by
  subst hy
  have hcw := zcw_pl hpl
  have hcode := hM.1
  rw [hcw] at hcode
  have hws : ∀ {s : State} {args : Array Value}, (∀ w ∈ zTB, w.before args s = true) → ∀ w ∈ Cond.code (M y').1 (M y').2.1 (M y').2.2.1 (M y').2.2.2.1 :: zTB, ∀ (a' : Array Value) (U : State), s.WarmedH U.vm → w.before a' U = true := fun hts => by have h9 := zws_ok hts hM; unfold zWs at h9; rw [hcw] at h9; exact h9
  intro ls st h a he
  unfold o_cv at he
  split at he
  · rename_i hb
    have hb2 := (Bool.and_eq_true _ _).mp hb
    split at he
    · rename_i x hx
      split at he
      · rename_i ht
        cases he
        obtain ⟨e1, e2⟩ := ztake hx
        refine ⟨y', _, _, rfl, hM, Nat.le_of_ble_eq_true hb2.2, fun v hv => Or.inr (List.mem_of_mem_take (List.mem_reverse.mp hv)), fun v hv => List.mem_of_mem_drop hv, ?_⟩
        intro l p e R s m args below meth c D cx ad H locs cells slots lsr r q ok hS hMt hnr hf1 hf2 hc hs
        obtain ⟨hx0, hb0, hml, hown, hts, hK, hlk, hini, hcf, hB, ho⟩ := cx
        unfold zMt zWs at hMt
        rw [hcw] at hMt
        rw [e1] at hMt ⊢
        have hwas : ∀ v ∈ Value.ref x :: (st.take n).reverse, zwf (zN h) v := fun v hv => by
          rw [← e1] at hv
          exact ok.2.2 v (List.mem_of_mem_take (List.mem_reverse.mp hv))
        have hlenn : (st.take n).length = n := by
          rw [List.length_take]
          have := (List.getElem?_eq_some_iff.mp hx).1
          omega
        have hws := hws hts
        rw [hret] at hMt hcode hws
        exact vx_runI (As := ((st.take n).reverse).map (zmv G.2.2.2.2 ad)) (b := ad x) ⟨hx0, hb0, hml, hown, hts⟩ hMt ⟨⟨rfl, rfl, hf1, by have := hM.2.2.2.1; show 8 + ((M y').2.2.1 + 11) + (40 * r + 200) ≤ R.locals; omega, hws, List.mem_cons_self, hts _ hcode, hts _ hM.2.1, hM.2.2.1, zdesc hn, hts _ hl⟩, hnm, hts _ hi⟩
          ⟨zPc_blind hG, zpre hG ok.1 hK hcf hS hwas⟩ rfl (by rw [List.length_map, List.length_reverse, hlenn]) ok.2.1.1.1 (by
            show st.map (zmv G.2.2.2.2 ad) = _
            rw [← List.map_reverse, List.reverse_reverse]
            conv => lhs; rw [e2]
            rw [List.map_append]
            rfl) (zlen8 (by rw [List.length_drop]; exact Nat.le_of_ble_eq_true hb2.1) _ _ _ _) hd ⟨hc, hs⟩
      · cases he
    · cases he
  · cases he
theorem zcall_IN {G : zG} (hG : zGst G) {M : Nat → zMI} {Mc My : zMI} {pc y' n u w idx : Nat} {host : String} (hy : M y' = My) (hM : zMok My) (hpl : My.2.2.2.2 = []) (hd : decode Mc.2.1 pc = .ok (.invokespecial idx, 3)) (hl : ∀ s : State, G.1 s → va_Nw (.methodLinkNest Mc.1.cls idx My.1 host) s) (hi : Cond.instanceMethod My.1 ∈ zTB) (hnm : My.1.name = "<init>") (hret : My.2.2.2.1 = none) (hn : (parseMethodDescriptor My.1.desc).map (fun d => d.parameters.length) = some n) : zCallOK G M Mc pc (o_cv y' n My.2.2.1 u w) := by
  subst hy
  have hcw := zcw_pl hpl
  have hcode := hM.1
  rw [hcw] at hcode
  have hws : ∀ {s : State} {args : Array Value}, (∀ w ∈ zTB, w.before args s = true) → ∀ w ∈ Cond.code (M y').1 (M y').2.1 (M y').2.2.1 (M y').2.2.2.1 :: zTB, ∀ (a' : Array Value) (U : State), s.WarmedH U.vm → w.before a' U = true := fun hts => by have h9 := zws_ok hts hM; unfold zWs at h9; rw [hcw] at h9; exact h9
  intro ls st h a he
  unfold o_cv at he
  split at he
  · rename_i hb
    have hb2 := (Bool.and_eq_true _ _).mp hb
    split at he
    · rename_i x hx
      split at he
      · rename_i ht
        cases he
        obtain ⟨e1, e2⟩ := ztake hx
        refine ⟨y', _, _, rfl, hM, Nat.le_of_ble_eq_true hb2.2, fun v hv => Or.inr (List.mem_of_mem_take (List.mem_reverse.mp hv)), fun v hv => List.mem_of_mem_drop hv, ?_⟩
        intro l p e R s m args below meth c D cx ad H locs cells slots lsr r q ok hS hMt hnr hf1 hf2 hc hs
        obtain ⟨hx0, hb0, hml, hown, hts, hK, hlk, hini, hcf, hB, ho⟩ := cx
        unfold zMt zWs at hMt
        rw [hcw] at hMt
        rw [e1] at hMt ⊢
        have hwas : ∀ v ∈ Value.ref x :: (st.take n).reverse, zwf (zN h) v := fun v hv => by
          rw [← e1] at hv
          exact ok.2.2 v (List.mem_of_mem_take (List.mem_reverse.mp hv))
        have hlenn : (st.take n).length = n := by
          rw [List.length_take]
          have := (List.getElem?_eq_some_iff.mp hx).1
          omega
        have hws := hws hts
        rw [hret] at hMt hcode hws
        exact vx_runIN (host := host) (As := ((st.take n).reverse).map (zmv G.2.2.2.2 ad)) (b := ad x) ⟨hx0, hb0, hml, hown, hts⟩ hMt ⟨⟨⟨rfl, rfl, hf1, by have := hM.2.2.2.1; show 8 + ((M y').2.2.1 + 11) + (40 * r + 200) ≤ R.locals; omega, hws, List.mem_cons_self⟩, hts _ hcode, hts _ hM.2.1, hM.2.2.1, zdesc hn, va_Nw.use rfl (hl s hcf)⟩, hnm, hts _ hi⟩
          ⟨zPc_blind hG, zpre hG ok.1 hK hcf hS hwas⟩ rfl (by rw [List.length_map, List.length_reverse, hlenn]) ok.2.1.1.1 (by
            show st.map (zmv G.2.2.2.2 ad) = _
            rw [← List.map_reverse, List.reverse_reverse]
            conv => lhs; rw [e2]
            rw [List.map_append]
            rfl) (zlen8 (by rw [List.length_drop]; exact Nat.le_of_ble_eq_true hb2.1) _ _ _ _) hd ⟨hc, hs⟩
      · cases he
    · cases he
  · cases he
theorem zcall_U {G : zG} (hG : zGst G) {M : Nat → zMI} {Mc My : zMI} {pc y' n u w idx : Nat} {C owner : String} {xn : MethodName} (hy : M y' = My) (hM : zMok My) (hpl : My.2.2.2.2 = []) (hd : decode Mc.2.1 pc = .ok (.invokevirtual idx, 3)) (hl : Cond.methodLink Mc.1.cls idx xn ∈ zTB) (hsm : Cond.sameMethod xn.cls owner xn.name xn.desc ∈ zTB) (hi : Cond.instanceMethod My.1 ∈ zTB) (hse : Cond.selects C xn My.1 ∈ zTB) (hyx : My.1 = ⟨owner, xn.name, xn.desc⟩) (hn : (parseMethodDescriptor xn.desc).map (fun d => d.parameters.length) = some n) (hrc : zRecv G C u w) : zCallOK G M Mc pc (o_cv y' n My.2.2.1 u w) := by
  subst hy
  have hcw := zcw_pl hpl
  have hcode := hM.1
  rw [hcw] at hcode
  have hws : ∀ {s : State} {args : Array Value}, (∀ w ∈ zTB, w.before args s = true) → ∀ w ∈ Cond.code (M y').1 (M y').2.1 (M y').2.2.1 (M y').2.2.2.1 :: zTB, ∀ (a' : Array Value) (U : State), s.WarmedH U.vm → w.before a' U = true := fun hts => by have h9 := zws_ok hts hM; unfold zWs at h9; rw [hcw] at h9; exact h9
  intro ls st h a he
  unfold o_cv at he
  split at he
  · rename_i hb
    have hb2 := (Bool.and_eq_true _ _).mp hb
    split at he
    · rename_i x hx
      split at he
      · rename_i ht
        cases he
        obtain ⟨e1, e2⟩ := ztake hx
        refine ⟨y', _, _, rfl, hM, Nat.le_of_ble_eq_true hb2.2, fun v hv => Or.inr (List.mem_of_mem_take (List.mem_reverse.mp hv)), fun v hv => List.mem_of_mem_drop hv, ?_⟩
        intro l p e R s m args below meth c D cx ad H locs cells slots lsr r q ok hS hMt hnr hf1 hf2 hc hs
        obtain ⟨hx0, hb0, hml, hown, hts, hK, hlk, hini, hcf, hB, ho⟩ := cx
        unfold zMt zWs at hMt
        rw [hcw] at hMt
        rw [e1] at hMt ⊢
        have hwas : ∀ v ∈ Value.ref x :: (st.take n).reverse, zwf (zN h) v := fun v hv => by
          rw [← e1] at hv
          exact ok.2.2 v (List.mem_of_mem_take (List.mem_reverse.mp hv))
        have hlenn : (st.take n).length = n := by
          rw [List.length_take]
          have := (List.getElem?_eq_some_iff.mp hx).1
          omega
        have hmh := hM.2.2.1
        have hcls : (M y').1.cls = owner := by rw [hyx]
        rw [hcls] at hmh
        exact vx_runU (x := xn) (owner := owner) (As := ((st.take n).reverse).map (zmv G.2.2.2.2 ad)) (b := ad x) (C := C) ⟨hx0, hb0, hml, hown, hts⟩ hMt ⟨⟨rfl, rfl, hf1, by have := hM.2.2.2.1; show 8 + ((M y').2.2.1 + 11) + (40 * r + 200) ≤ R.locals; omega, hws hts, List.mem_cons_self⟩, hts _ hcode, hts _ hM.2.1, hmh, zdesc hn, hts _ hl, hts _ hsm, by rw [← hyx]; exact va_Decl.of (hts _ hi) (hts _ hcode), hts _ hse, hts _ hi⟩
          ⟨zPc_blind hG, hrc D s ad h H locs x hK hcf hS ok.1 ht, zpre hG ok.1 hK hcf hS hwas⟩ rfl (by rw [List.length_map, List.length_reverse, hlenn]) ok.2.1.1.1 (by
            show st.map (zmv G.2.2.2.2 ad) = _
            rw [← List.map_reverse, List.reverse_reverse]
            conv => lhs; rw [e2]
            rw [List.map_append]
            rfl) (zlen8 (by rw [List.length_drop]; exact Nat.le_of_ble_eq_true hb2.1) _ _ _ _) hd ⟨hc, hs⟩
      · cases he
    · cases he
  · cases he
theorem zcall_S {G : zG} (hG : zGst G) {M : Nat → zMI} {Mc My : zMI} {pc y' n idx : Nat} (hy : M y' = My) (hM : zMok My) (hpl : My.2.2.2.2 = []) (hd : decode Mc.2.1 pc = .ok (.invokestatic idx, 3)) (hl : Cond.methodLink Mc.1.cls idx My.1 ∈ zTB) (hst : Cond.static My.1 ∈ zTB) (hn : (parseMethodDescriptor My.1.desc).map (fun d => d.parameters.length) = some n) : zCallOK G M Mc pc (o_cs y' n My.2.2.1) := by
  subst hy
  have hcw := zcw_pl hpl
  have hcode := hM.1
  rw [hcw] at hcode
  have hws : ∀ {s : State} {args : Array Value}, (∀ w ∈ zTB, w.before args s = true) → ∀ w ∈ Cond.code (M y').1 (M y').2.1 (M y').2.2.1 (M y').2.2.2.1 :: zTB, ∀ (a' : Array Value) (U : State), s.WarmedH U.vm → w.before a' U = true := fun hts => by have h9 := zws_ok hts hM; unfold zWs at h9; rw [hcw] at h9; exact h9
  intro ls st h a he
  unfold o_cs at he
  split at he
  · rename_i hb
    have hb2 := (Bool.and_eq_true _ _).mp hb
    have hb3 := (Bool.and_eq_true _ _).mp hb2.2
    cases he
    refine ⟨y', _, _, rfl, hM, Nat.le_of_ble_eq_true hb3.2, fun v hv => Or.inr (List.mem_of_mem_take (List.mem_reverse.mp hv)), fun v hv => List.mem_of_mem_drop hv, ?_⟩
    intro l p e R s m args below meth c D cx ad H locs cells slots lsr r q ok hS hMt hnr hf1 hf2 hc hs
    obtain ⟨hx0, hb0, hml, hown, hts, hK, hlk, hini, hcf, hB, ho⟩ := cx
    unfold zMt zWs at hMt
    rw [hcw] at hMt
    have hwas : ∀ v ∈ (st.take n).reverse, zwf (zN h) v := fun v hv => ok.2.2 v (List.mem_of_mem_take (List.mem_reverse.mp hv))
    have hlenn : (st.take n).length = n := by
      rw [List.length_take]
      have := Nat.le_of_ble_eq_true hb2.1
      omega
    exact vx_runS (As := ((st.take n).reverse).map (zmv G.2.2.2.2 ad)) ⟨hx0, hb0, hml, hown, hts⟩ hMt ⟨⟨rfl, rfl, hf1, by have := hM.2.2.2.1; show 8 + ((M y').2.2.1 + 11) + (40 * r + 200) ≤ R.locals; omega, hws hts, List.mem_cons_self, hts _ hcode, hts _ hM.2.1, hM.2.2.1, zdesc hn, hts _ hl⟩, hts _ hst⟩
      ⟨zPc_blind hG, zpre hG ok.1 hK hcf hS hwas⟩ rfl (by rw [List.length_map, List.length_reverse, hlenn]) ok.2.1.1.1 (by
        show st.map (zmv G.2.2.2.2 ad) = _
        rw [← List.map_reverse, List.reverse_reverse, ← List.map_append, List.take_append_drop]) (zlen8 (by rw [List.length_drop]; exact Nat.le_of_ble_eq_true hb3.1) _ _ _ _) hd ⟨hc, hs⟩
  · cases he
/-- a call of a static method with a table of its own, which never throws -/
theorem zcall_SW {G : zG} (hG : zGst G) {M : Nat → zMI} {Mc My : zMI} {pc y' n idx : Nat} (hy : M y' = My) (hM : zMok My) (hpl : My.2.2.2.2 ≠ []) (hd : decode Mc.2.1 pc = .ok (.invokestatic idx, 3)) (hl : Cond.methodLink Mc.1.cls idx My.1 ∈ zTB) (hst : Cond.static My.1 ∈ zTB) (hn : (parseMethodDescriptor My.1.desc).map (fun d => d.parameters.length) = some n) : zCallOK G M Mc pc (o_cs y' n My.2.2.1) := by
  subst hy
  have hcw := zcw_hh hpl
  have hcode := hM.1
  rw [hcw] at hcode
  intro ls st h a he
  unfold o_cs at he
  split at he
  · rename_i hb
    have hb2 := (Bool.and_eq_true _ _).mp hb
    have hb3 := (Bool.and_eq_true _ _).mp hb2.2
    cases he
    refine ⟨y', _, _, rfl, hM, Nat.le_of_ble_eq_true hb3.2, fun v hv => Or.inr (List.mem_of_mem_take (List.mem_reverse.mp hv)), fun v hv => List.mem_of_mem_drop hv, ?_⟩
    intro l p e R s m args below meth c D cx ad H locs cells slots lsr r q ok hS hMt hnr hf1 hf2 hc hs
    obtain ⟨hx0, hb0, hml, hown, hts, hK, hlk, hini, hcf, hB, ho⟩ := cx
    have hws := zws_ok hts hM
    unfold zMt zWs at hMt
    unfold zWs at hws
    rw [hcw] at hMt hws
    obtain ⟨v0, hv0⟩ := hnr hpl
    have hMet : Met l (M y').1 (Cond.codeWith (M y').1 (M y').2.1 (M y').2.2.1 (M y').2.2.2.1 (M y').2.2.2.2 :: zTB) (zRm r (zC q.2 - zC h) (zS q.2 - zS h)) (zPc G D ad h (st.take n).reverse H) (zQc G D ad h q) (zC q.2 - zC h) (zS q.2 - zS h) (zA G) := by
      intro p9 e9 ha9 hc9 hk9 s9 m9 args9 below9 hf9 happ9 hpc9 hk9'
      obtain ⟨t9, o9, a1, a2, a3, a4⟩ := hMt p9 e9 ha9 hc9 hk9 s9 m9 args9 below9 hf9 happ9 hpc9 hk9'
      refine ⟨t9, o9, a1, a2, a3, ?_⟩
      rcases a4 with a4 | ⟨qa, -, E, ce, Lx, ⟨ad9, b1, -⟩, -⟩
      · exact a4
      · rw [hv0] at b1; cases b1
    have hwas : ∀ v ∈ (st.take n).reverse, zwf (zN h) v := fun v hv => ok.2.2 v (List.mem_of_mem_take (List.mem_reverse.mp hv))
    have hlenn : (st.take n).length = n := by
      rw [List.length_take]
      have := Nat.le_of_ble_eq_true hb2.1
      omega
    have run := vx_runSW (e := e) (locs := locs) (meth := meth) (below := below) (As := ((st.take n).reverse).map (zmv G.2.2.2.2 ad)) (rest := (st.drop n).map (zmv G.2.2.2.2 ad)) (g := F0 m pc lsr (st.map (zmv G.2.2.2.2 ad))) ⟨hx0, hb0, hml, hown, hts⟩ hMet ⟨⟨rfl, rfl, hf1, by have := hM.2.2.2.1; show 8 + ((M y').2.2.1 + 11) + (40 * r + 200) ≤ R.locals; omega, hws, List.mem_cons_self⟩, hts _ hcode, hts _ hM.2.1, hM.2.2.1, zdesc hn, hts _ hl, hts _ hst⟩
      ⟨zPc_blind hG, zpre hG ok.1 hK hcf hS hwas⟩ rfl (by rw [List.length_map, List.length_reverse, hlenn]) ok.2.1.1.1 (by
        show st.map (zmv G.2.2.2.2 ad) = _
        rw [← List.map_reverse, List.reverse_reverse, ← List.map_append, List.take_append_drop]) (zlen8 (by rw [List.length_drop]; exact Nat.le_of_ble_eq_true hb3.1) _ _ _ _) hd ⟨hc, hs⟩
    exact fun T hT X => Or.inl (run T hT X)
  · cases he
/-! ends -/
theorem zret_i {M : zMI} {pc : Nat} {ty : FieldType} {nr : Int32 → Int32} (hd : decode M.2.1 pc = .ok (.ireturn, 1)) (hr : M.2.2.2.1 = some ty) (hnr : ∀ x, nr x = x → narrow ty (.int x) = .int x) : zRetOK M pc (o_iret nr) := by
  intro ls st h a he
  unfold o_iret at he
  split at he
  · split at he
    · rename_i x hx
      cases he
      exact ⟨_, rfl, Or.inl ⟨hd, x, ty, rfl, rfl, hr, hnr x hx⟩⟩
    · cases he
  · cases he
theorem zret_l {M : zMI} {pc : Nat} (hd : decode M.2.1 pc = .ok (.lreturn, 1)) (hr : M.2.2.2.1 = some .long) : zRetOK M pc o_lret := by
  intro ls st h a he
  unfold o_lret at he
  split at he
  · cases he
    exact ⟨_, rfl, Or.inr (Or.inl ⟨hd, _, rfl, rfl, hr⟩)⟩
  · cases he
theorem zret_a {M : zMI} {pc : Nat} {ty : FieldType} (hd : decode M.2.1 pc = .ok (.areturn, 1)) (hr : M.2.2.2.1 = some ty) (ht : (∃ n, ty = .object n) ∨ ∃ t, ty = .array t) : zRetOK M pc o_aret := by
  intro ls st h a he
  unfold o_aret at he
  split at he
  · split at he
    · rename_i hi
      cases he
      exact ⟨_, rfl, Or.inr (Or.inr (Or.inl ⟨hd, _, ty, rfl, rfl, hi, hr, ht⟩))⟩
    · cases he
  · cases he
theorem zret_v {M : zMI} {pc : Nat} (hd : decode M.2.1 pc = .ok (.return_, 1)) (hr : M.2.2.2.1 = none) : zRetOK M pc o_vret := by
  intro ls st h a he
  unfold o_vret at he
  split at he
  · cases he
    exact ⟨_, rfl, Or.inr (Or.inr (Or.inr ⟨hd, rfl, rfl, hr⟩))⟩
  · cases he
