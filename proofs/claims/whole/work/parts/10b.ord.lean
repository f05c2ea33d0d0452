/-! ===== a callee walked in place (its class may not be said to be initialised): Enum.ordinal ===== -/
section
variable {p : Program} {l : Launch} {e : Env} {R : Room} {s : State} {m : MethodId} {args : Array Value} {below : List Frame} {meth : Method} {c : Code} {T : State} {locs : List Loc} {cells slots : Nat}
theorem vx_inl (X : Stand p l e R s m args below meth c T locs cells slots) {g : JFrame} (hg : g.method = m) (hsize : g.locals.size = c.maxLocals) {ig : Instr} {len : Nat} (hdg : decode c.code g.pc = .ok (ig, len))
    {mk : MethodId} {methM : Method} {cM : Code} (hmM : T.vm.method? mk = some methM) (hcM : methM.code = some cM) (hl : methM.locks = false) (hplain : T.plainMethod mk) {a : Array Value} {R0 : Room}
    (hframes : R0.frames + 1 ≤ R.frames) (hlocals : 2 * g.monitorRoom + (g.stack.map fun v => v.category).sum + (cM.maxLocals + 11) + R0.locals ≤ R.locals) (hcells : cells + R0.cells ≤ R.cells) (hslots : slots + R0.slots ≤ R.slots) {v : Value}
    (K : W p l e R0 (T.calling g mk a) mk a (.java g :: T.frames.tail) methM cM T.heap [] 0 0 (MQ (.java g :: T.frames.tail) (fun _ _ o t => o = .returned (some v) ∧ t.heap = T.heap) a (T.calling g mk a) 0 0 (fun _ => False)) (entryFrame mk a cM.maxLocals)) :
    ∃ B : State, B.heap = T.heap ∧ Stand p l e R s m args below meth c B locs cells slots ∧ ∀ acts, Steps p.tables e below (doInvoke e (T.setTop g) acts mk a).1 (B.setTop { g with pc := g.pc + len, stack := v :: g.stack }) := by
  have h : At T g.method c below := by rw [hg]; exact X.here
  obtain ⟨mid, hmid⟩ := h.above
  obtain ⟨g₀, hg0⟩ := Option.isSome_iff_exists.mp h.top
  obtain ⟨r, hr⟩ := State.topJava?_eq_some.mp hg0
  have htail : T.frames.tail = r := by rw [hr]; rfl
  have hfull : e.platform.stackFull (((T.setTop g).threads[(T.setTop g).cur]?).getD { frames := [] }) (T.setTop g).frames cM.maxLocals = false := X.notFull hsize (by omega) (by omega)
  have henter : ∀ acts, (doInvoke e (T.setTop g) acts mk a).1 = ((T.setTop g).pushFrame (.java (entryFrame mk a cM.maxLocals))).setTop (entryFrame mk a cM.maxLocals) := fun acts => doInvoke_enter h.top acts hmM hcM hl hfull
  have hf0 : (T.calling g mk a).frames = .invoking mk a :: .java g :: T.frames.tail := State.frames_calling h.top g mk a
  have hfU : ((T.setTop g).pushFrame (.java (entryFrame mk a cM.maxLocals))).frames = .java (entryFrame mk a cM.maxLocals) :: .java g :: T.frames.tail := frames_entered h.top _
  have hAt := h.enter (g := g) a hmM hcM hplain
  have hcode0 : (T.calling g mk a).code? g.method = some c := by
    have := h.code
    rw [State.code?_eq] at this ⊢
    simpa [State.calling, State.pushFrame, State.setFrames] using this
  have hUeq : (T.setTop g).pushFrame (.java (entryFrame mk a cM.maxLocals)) = (T.calling g mk a).setFrames (.java (entryFrame mk a cM.maxLocals) :: .java g :: T.frames.tail) := by
    rw [State.calling_eq h.top, State.setFrames_setFrames, State.pushFrame, State.frames_setTop' g h.top, State.setTop_of_frames _ hr, State.setFrames_setFrames, htail]
  obtain ⟨th, hth, -⟩ := State.frames_cons hf0
  have hcur0 : (T.calling g mk a).cur < (T.calling g mk a).threads.size := State.cur_lt_of_frames hf0
  have Y : Stand p l e R0 (T.calling g mk a) mk a (.java g :: T.frames.tail) methM cM ((T.setTop g).pushFrame (.java (entryFrame mk a cM.maxLocals))) [] 0 0 := by
    refine ⟨X.admits, X.cas, X.clock, hf0, X.room_calling hsize hmM hcM hframes hlocals hcells hslots, ?_, hmM, hcM, ⟨hAt.top, ⟨[], by rw [hfU]; rfl⟩, hAt.running, hAt.runnable, hAt.alone, hAt.code, hAt.plain⟩, by rw [hfU]; rfl, ?_, ?_, ?_, ?_⟩
    · simp [State.hears, hcode0, hdg, Except.toOption]
    · rw [hUeq]; exact State.WarmedH.refl (T.calling g mk a)
    · rw [hUeq, State.stackLimits_setFrames]
    · rw [hUeq, State.stackBytes_setFrames]
    · rw [hUeq]
      exact (State.sameButNew.refl (T.calling g mk a) hth).setFrames _ hcur0
  obtain ⟨s₂, hsteps, o, hrun, hend, ⟨rfl, hheap⟩, L, hfe, hL⟩ := K _ (by rw [hUeq]; rfl) Y
  have hL0 : L = [] := by
    cases L with
    | nil => rfl
    | cons q t => exact (hL q List.mem_cons_self).elim
  subst hL0
  obtain ⟨-, hW₂, e2, q2, q3, q4, q5, q6⟩ := id hfe
  have e3 : s₂ = ({ (T.calling g mk a).setFrames s₂.frames with heap := s₂.heap, slotsUsed := s₂.slotsUsed } : State).setVm s₂.vm := by
    have : s₂ = ({ s₂ with vm := (T.calling g mk a).vm } : State).setVm s₂.vm := rfl
    rw [e2] at this
    exact this
  obtain ⟨c₂, i₂, len₂, hc₂, hd₂, hf₂⟩ := hend
  have hW' : T.WarmedH s₂.vm := hW₂
  have hcc : c₂ = c := by
    have h1 : s₂.code? g.method = T.code? g.method := by
      rw [State.code?_eq, State.code?_eq, hW'.alike.method?]
    exact Option.some.inj (hc₂.symm.trans (h1.trans h.code))
  subst hcc
  have hlen : len₂ = len := by rw [hdg] at hd₂; cases hd₂; rfl
  subst hlen
  have hr' : (({ T with heap := s₂.heap, slotsUsed := s₂.slotsUsed } : State).setVm s₂.vm).frames = .java g₀ :: r := hr
  have hs₂ : s₂ = (({ T with heap := s₂.heap, slotsUsed := s₂.slotsUsed } : State).setVm s₂.vm).setTop { g with pc := g.pc + len₂, stack := v :: g.stack } := by
    refine e3.trans ?_
    rw [hf₂, State.calling_eq h.top, State.setFrames_setFrames, State.setTop_of_frames _ hr', hr]
    rfl
  have hsame : T.sameButNew ({ T with heap := s₂.heap, slotsUsed := s₂.slotsUsed } : State) [] 0 0 := by
    refine ⟨?_, q2, q3, q4, q5, q6⟩
    obtain ⟨t, ht, -⟩ := State.frames_cons hr
    show ({ T with heap := s₂.heap, slotsUsed := s₂.slotsUsed } : State) = { T.setFrames T.frames with heap := s₂.heap, slotsUsed := s₂.slotsUsed }
    rw [State.setFrames_self ht]
  have hsm : s.sameButNew ((({ T with heap := s₂.heap, slotsUsed := s₂.slotsUsed } : State).setVm s₂.vm).setVm s.vm) (locs ++ []) (cells + 0) (slots + 0) := X.same.trans (hsame.setVm s.vm)
  rw [List.append_nil] at hsm
  subst hg
  refine ⟨(({ T with heap := s₂.heap, slotsUsed := s₂.slotsUsed } : State).setVm s₂.vm), hheap, ⟨X.admits, X.cas, X.clock, X.frames, X.room, X.hears, X.method, X.code, (X.here.setHeapUsed s₂.heap s₂.slotsUsed).setVm hW'.alike, X.tail, State.WarmedH.trans X.warmed hW', X.limits, X.bytes, hsm⟩, fun acts => ?_⟩
  rw [← hs₂, henter]
  have h9 : Steps p.tables e ((.java g :: mid) ++ below) (((T.setTop g).pushFrame (.java (entryFrame mk a cM.maxLocals))).setTop (entryFrame mk a cM.maxLocals)) s₂ := by
    have h8 : (.java g :: mid) ++ below = .java g :: T.frames.tail := by rw [hmid]; rfl
    rw [h8]; exact hsteps
  obtain ⟨n9, hn9, w9⟩ := h9
  exact ⟨n9, hn9, fun k hk => (w9 k hk).weaken⟩
end
/-- Enum.ordinal of a constant -/
def o_ord : zOp := fun pc ls st h => match st with
  | .ref a :: r => (match Nat.ble r.length 4 with
    | true => if zT h a = 40 then some (.inl (pc + 3, ls, .int (nI a) :: r, h)) else none
    | false => none)
  | _ => none
theorem gk_ord : zGoK o_ord := by
  intro pc ls st h a he
  unfold o_ord at he
  split at he
  · split at he
    · split at he
      · cases he; exact ⟨_, rfl, Nat.le_refl _, Nat.le_refl _, Nat.le_refl _⟩
      · cases he
    · cases he
  · cases he
theorem zs_ord {B0 : Nat} {cad : Nat → Nat} {ov : Value} {L : Nat} {xs : Nat → Int32} {own : String} {cc : ByteArray} {nL : Nat} {ini : Bool} {pc idx : Nat} {xn yn : MethodName} {bytes : ByteArray} (hyx : yn = ⟨"java/lang/Enum", xn.name, xn.desc⟩) (hxd : xn.desc = "()I")
    (hl : Cond.methodLink own idx xn ∈ zTB) (hsm : Cond.sameMethod xn.cls "java/lang/Enum" xn.name xn.desc ∈ zTB) (hi : Cond.instanceMethod yn ∈ zTB) (hse : Cond.selects "MailSessions$Verb" xn yn ∈ zTB) (hco : Cond.code yn bytes 1 (some .int) ∈ zTB)
    (hfl : Cond.fieldLink "java/lang/Enum" 7 "java/lang/Enum" "ordinal" "I" ∈ zTB) (d0 : decode bytes 0 = .ok (.aload_n 0, 1)) (d1 : decode bytes 1 = .ok (.getfield 7, 3)) (d4 : decode bytes 4 = .ok (.ireturn, 1))
    (hd : decode cc pc = .ok (.invokevirtual idx, 3)) : zSnd (zGG B0 cad ov L xs) own cc nL ini pc o_ord := by
  intro ls st h pc' ls' st' h' he l p e R s m args below meth c D Q cx ad H locs cells slots lsr ok hS hc hs hR kk
  obtain ⟨hx, hb, hml, hown, hts, hK, hlk, hini, hcf, hB, ho⟩ := cx
  obtain ⟨rel, lr, ws⟩ := ok
  unfold o_ord at he
  split at he
  · rename_i a r
    split at he
    · rename_i hlen4
      split at he
      · rename_i hta
        cases he
        have r9 := rel.2.2.2.2.2 a (by rw [hta]; omega)
        have ha := zcT_40 (r9.2.1.trans hta)
        have hG := zGG_st B0 cad ov L xs
        rw [List.map_cons, show zmv (zGG B0 cad ov L xs).2.2.2.2 ad (.ref a) = .ref (ad a) from rfl]
        intro T hT X
        obtain ⟨cellB, hcell, hobj, hcls⟩ := zrecv_verb B0 cad ov L xs D s ad h H locs a hK hcf hS rel (Or.inl hta)
        subst hyx
        obtain ⟨r0, rr, hn, hrm, hstR, hsigR⟩ := va_Decl.of (hts _ hi) (hts _ hco)
        obtain ⟨cn, ck, r1, hcn, hck, hni, hf, hn1⟩ := Cond.sameMethod_found (hts _ hsm)
        cases hn.symm.trans hn1
        obtain ⟨mk, methM, hnamed, hmethM, -, habM⟩ := Cond.instanceMethod_spec (hts _ hi)
        obtain ⟨methM', cM, hmethM', hcodeM, hbytesM, hlocalsM, hretM, hlocksM, -, -⟩ := Cond.code_spec hnamed (hts _ hco)
        cases hmethM.symm.trans hmethM'
        obtain ⟨c2, r2, m2, q1, q2, q3, q4, kP, hkP, hkPi⟩ := Cond.selects_spec (hts _ hse)
        cases hcls.symm.trans q1
        cases hf.symm.trans q2
        cases hnamed.symm.trans q3
        have hselP : selectMethod e.platform s.vm cellB.cls r0 = .method mk := by rw [Launch.admits_selectMethod X.admits]; exact q4
        obtain ⟨vm₁, X₁, hstep₁⟩ := X.invokevirtualUp hx hown (hts _ hl) (hts _ hsm) (by decide) hn hrm hstR (a := ad a) (cell := cellB) (by rw [hT]; exact hcell)
          (fun z h => by rw [h] at hobj; cases hobj) hselP hmethM habM hkP hkPi (g := F0 m pc lsr (.ref (ad a) :: r.map (zmv (zGG B0 cad ov L xs).2.2.2.2 ad))) rfl (argsL := []) (rest := r.map (zmv (zGG B0 cad ov L xs).2.2.2.2 ad))
          (by
            have h9 : parseMethodDescriptor xn.desc = some ⟨[], some .int⟩ := by rw [hxd]; decide +kernel
            have h8 : parseMethodDescriptor xn.desc = some rr.sig := hsigR
            rw [h9] at h8
            injection h8 with h8
            rw [← h8]; rfl) rfl (by rw [hb]; exact hd)
        have al : s.vm.Alike vm₁ := X₁.warmed.alike
        have hmM : (T.setVm vm₁).vm.method? mk = some methM := by show vm₁.method? mk = _; rw [al.method?]; exact hmethM
        have hplain : (T.setVm vm₁).plainMethod mk := by
          refine State.plainMethod.of_name ?_
          intro k hk
          obtain ⟨k0, hk0, hn0⟩ := className_of_methodNamed hnamed
          obtain ⟨k', hk', he'⟩ := al.2.2 _ _ hk0
          cases (show vm₁.classes[mk.cls]? = some k from hk).symm.trans hk'
          rw [he']; show plainName k0.name = true; rw [hn0]; show plainName "java/lang/Enum" = true; decide +kernel
        have hwas : ∀ v ∈ [Value.ref a], zwf (zN h) v := fun v hv => by
          rw [List.mem_singleton.mp hv]; exact r9.1
        have pc0 := zPc_blind hG _ _ (F0 m pc lsr (r.map (zmv (zGG B0 cad ov L xs).2.2.2.2 ad))) mk (zpre hG rel hK hcf hS hwas (T.setVm vm₁) hT X₁.warmed)
        obtain ⟨-, hH0, rel0, hK0, hcf0, hB0, -⟩ := pc0
        rw [← hH0] at hB0
        have hcf0 : zCF B0 cad ov L xs _ := hcf0
        have hW0 : s.WarmedH ((T.setVm vm₁).calling (F0 m pc lsr (r.map (zmv (zGG B0 cad ov L xs).2.2.2.2 ad))) mk #[.ref (ad a)]).vm := X₁.warmed
        have hts0 : ∀ w ∈ zTB, w.before #[.ref (ad a)] ((T.setVm vm₁).calling (F0 m pc lsr (r.map (zmv (zGG B0 cad ov L xs).2.2.2.2 ad))) mk #[.ref (ad a)]) = true := fun w hw => word_at hW0 (good_of_word (List.mem_filter.mp hw).2) (hts w hw)
        have hown0 : s.vm.findClass "java/lang/Enum" = some mk.cls := findClass_of_methodNamed hnamed
        have hown1 : ((T.setVm vm₁).calling (F0 m pc lsr (r.map (zmv (zGG B0 cad ov L xs).2.2.2.2 ad))) mk #[.ref (ad a)]).vm.findClass "java/lang/Enum" = some mk.cls := by
          show vm₁.findClass "java/lang/Enum" = _
          rw [al.findClass]; exact hown0
        have hHT : (T.setVm vm₁).heap = H := hT
        have K : W p l e { frames := 1, cells := 0, slots := 0, locals := 20 } ((T.setVm vm₁).calling (F0 m pc lsr (r.map (zmv (zGG B0 cad ov L xs).2.2.2.2 ad))) mk #[.ref (ad a)]) mk #[.ref (ad a)] (.java (F0 m pc lsr (r.map (zmv (zGG B0 cad ov L xs).2.2.2.2 ad))) :: (T.setVm vm₁).frames.tail) methM cM (T.setVm vm₁).heap [] 0 0
            (MQ (.java (F0 m pc lsr (r.map (zmv (zGG B0 cad ov L xs).2.2.2.2 ad))) :: (T.setVm vm₁).frames.tail) (fun _ _ o t => o = .returned (some (.int (nI a))) ∧ t.heap = (T.setVm vm₁).heap) #[.ref (ad a)] ((T.setVm vm₁).calling (F0 m pc lsr (r.map (zmv (zGG B0 cad ov L xs).2.2.2.2 ad))) mk #[.ref (ad a)]) 0 0 (fun _ => False)) (entryFrame mk #[.ref (ad a)] cM.maxLocals) := by
          rw [hHT, hlocalsM]
          have e9 : entryFrame mk #[.ref (ad a)] 1 = F0 mk 0 (lg_sl [Value.ref (ad a)] ++ List.replicate (1 - (lg_sl [Value.ref (ad a)]).length) Slot.unset).toArray [] := lg_entry_eq mk [Value.ref (ad a)] 1
          rw [e9]
          have hS0 : va_S (zA (zGG B0 cad ov L xs)) ((T.setVm vm₁).calling (F0 m pc lsr (r.map (zmv (zGG B0 cad ov L xs).2.2.2.2 ad))) mk #[.ref (ad a)]).heap H [] := by
            have : ((T.setVm vm₁).calling (F0 m pc lsr (r.map (zmv (zGG B0 cad ov L xs).2.2.2.2 ad))) mk #[.ref (ad a)]).heap = H := hT
            rw [this]
            exact va_S.rf
          have hcOrd := ((hcf0.2.2.1 a ha).2.2.1)
          refine lv_aload_n hx hbytesM (k := 0) (i := 0) (x := ad a) d0 rfl rfl ?_
          rw [r9.2.2]
          refine vk_getf hx hbytesM hcOrd hS0 hown1 (hts0 _ hfl) (fun _ h9 => h9) d1 ?_
          exact W.iret hx hbytesM hretM (fun t ht _ => ⟨rfl, ht⟩) (fun q hq => by cases hq) d4 hlocksM
        obtain ⟨B, hBh, XB, hst⟩ := vx_inl X₁ (g := F0 m pc lsr (r.map (zmv (zGG B0 cad ov L xs).2.2.2.2 ad))) rfl (lr.1.1.trans hml.symm) (ig := .invokevirtual idx) (len := 3) (by rw [hb]; exact hd) hmM hcodeM hlocksM hplain (R0 := { frames := 1, cells := 0, slots := 0, locals := 20 }) (by have := hR.1; show 1 + 1 ≤ _; omega)
          (by
            have h5 := zlen8 (o := ov) (ad := ad) (Nat.le_of_ble_eq_true hlen4) pc m lsr (r.map (zmv ov ad))
            have h6 := hR.2
            rw [hlocalsM]
            show 2 * (F0 m pc lsr (r.map (zmv ov ad))).monitorRoom + ((r.map (zmv ov ad)).map fun v => v.category).sum + (1 + 11) + 20 ≤ R.locals
            omega) (by show cells + 0 ≤ _; omega) (by show slots + 0 ≤ _; omega) K
        obtain ⟨t2, a1, b1⟩ := kk ad H locs cells slots lsr (fun _ _ => rfl) (Nat.le_refl _) ⟨rel, lr, zw_c trivial (zw_t ws)⟩ hS rfl rfl B (hBh.trans hT) XB
        exact ⟨t2, hstep₁ _ fun acts => (hst acts).trans a1, b1⟩
      · cases he
    · cases he
  · cases he
/-- Math.max, Math.min -/
def o_mx (f : Int32 → Int32 → Int32) : zOp := fun pc ls st h => match st with
  | .int y :: .int x :: r => (match Nat.ble r.length 4 with
    | true => some (.inl (pc + 3, ls, .int (f x y) :: r, h))
    | false => none)
  | _ => none
theorem gk_mx (f : Int32 → Int32 → Int32) : zGoK (o_mx f) := by
  intro pc ls st h a he
  unfold o_mx at he
  split at he
  · split at he
    · cases he; exact ⟨_, rfl, Nat.le_refl _, Nat.le_refl _, Nat.le_refl _⟩
    · cases he
  · cases he
theorem zs_mmax {G : zG} {own : String} {cc : ByteArray} {nL : Nat} {ini : Bool} {pc idx : Nat} (hl : Cond.methodLink own idx Lib.Math.max.name ∈ zTB) (hst : Cond.static Lib.Math.max.name ∈ zTB) (hin : Cond.initialized "java/lang/Math" ∈ zTB) (hco : Cond.code Lib.Math.max.name Lib.Math.max.code 2 (some .int) ∈ zTB) (hd : decode cc pc = .ok (.invokestatic idx, 3)) : zSnd G own cc nL ini pc (o_mx (fun x y => if x < y then y else x)) := by
  intro ls st h pc' ls' st' h' he l p e R s m args below meth c D Q cx ad H locs cells slots lsr ok hS hc hs hR kk
  obtain ⟨hx, hb, hml, hown, hts, hK, hlk, hini, hcf, hB, ho⟩ := cx
  obtain ⟨rel, lr, ws⟩ := ok
  unfold o_mx at he
  split at he
  · split at he
    · rename_i r hlen
      cases he
      have h5 := zlen8 (o := G.2.2.2.2) (ad := ad) (Nat.le_of_ble_eq_true hlen) pc m lsr []
      have h6 : 2 * (F0 m pc lsr []).monitorRoom = 0 := rfl
      exact va_mmax hx hb (hml.trans lr.1.1.symm) hown (hts _ hl) (hts _ hst) (hts _ hin) (hts _ hco) (by omega) (by omega) (by omega) (by omega) hd (kk ad H locs cells slots lsr (fun _ _ => rfl) (Nat.le_refl _) ⟨rel, lr, zw_c trivial (zw_t (zw_t ws))⟩ hS rfl rfl)
    · cases he
  · cases he
theorem zs_mmin {G : zG} {own : String} {cc : ByteArray} {nL : Nat} {ini : Bool} {pc idx : Nat} (hl : Cond.methodLink own idx Lib.Math.min.name ∈ zTB) (hst : Cond.static Lib.Math.min.name ∈ zTB) (hin : Cond.initialized "java/lang/Math" ∈ zTB) (hco : Cond.code Lib.Math.min.name Lib.Math.min.code 2 (some .int) ∈ zTB) (hd : decode cc pc = .ok (.invokestatic idx, 3)) : zSnd G own cc nL ini pc (o_mx (fun x y => if y < x then y else x)) := by
  intro ls st h pc' ls' st' h' he l p e R s m args below meth c D Q cx ad H locs cells slots lsr ok hS hc hs hR kk
  obtain ⟨hx, hb, hml, hown, hts, hK, hlk, hini, hcf, hB, ho⟩ := cx
  obtain ⟨rel, lr, ws⟩ := ok
  unfold o_mx at he
  split at he
  · split at he
    · rename_i r hlen
      cases he
      have h5 := zlen8 (o := G.2.2.2.2) (ad := ad) (Nat.le_of_ble_eq_true hlen) pc m lsr []
      have h6 : 2 * (F0 m pc lsr []).monitorRoom = 0 := rfl
      exact va_mmin hx hb (hml.trans lr.1.1.symm) hown (hts _ hl) (hts _ hst) (hts _ hin) (hts _ hco) (by omega) (by omega) (by omega) (by omega) hd (kk ad H locs cells slots lsr (fun _ _ => rfl) (Nat.le_refl _) ⟨rel, lr, zw_c trivial (zw_t (zw_t ws))⟩ hS rfl rfl)
    · cases he
  · cases he
