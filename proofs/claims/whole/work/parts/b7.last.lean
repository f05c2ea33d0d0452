/-! ===== the whole: from the entry to the end ===== -/
theorem zK_of {args : Array Value} {s : State} (hts : ∀ w ∈ zTB, w.before args s = true) : ∃ D : va_G, va_K D vwCl [] s := by
  have h : ∀ k : Nat, ∃ p : ClassId × (Nat → Nat), ∀ q : vw_C, vwCl[k]? = some q → u_Kn s q.1 q.2.1 q.2.2 p.1 p.2 := fun k => by
    match k with
    | 0 => obtain ⟨c, i, hk⟩ := u_known (C := RJ0) (T := TJ0) (N := 4) (n := 4) hts zin_0 (hts _ zw_2_138); exact ⟨(c, i), fun q hq => by cases hq; exact hk⟩
    | 1 => obtain ⟨c, i, hk⟩ := u_known (C := RX1) (T := TX1) (N := 10) (n := 10) hts zin_1 (hts _ zw_2_80); exact ⟨(c, i), fun q hq => by cases hq; exact hk⟩
    | 2 => obtain ⟨c, i, hk⟩ := u_known (C := RX2) (T := TX2) (N := 5) (n := 5) hts zin_2 (hts _ zw_1_35); exact ⟨(c, i), fun q hq => by cases hq; exact hk⟩
    | 3 => obtain ⟨c, i, hk⟩ := u_known (C := RX3) (T := TX3) (N := 4) (n := 4) hts zin_3 (hts _ zw_3_194); exact ⟨(c, i), fun q hq => by cases hq; exact hk⟩
    | 4 => obtain ⟨c, i, hk⟩ := u_known (C := RX4) (T := TX4) (N := 6) (n := 6) hts zin_4 (hts _ zw_2_51); exact ⟨(c, i), fun q hq => by cases hq; exact hk⟩
    | 5 => obtain ⟨c, i, hk⟩ := u_known (C := RX5) (T := TX5) (N := 2) (n := 2) hts zin_5 (hts _ zw_1_74); exact ⟨(c, i), fun q hq => by cases hq; exact hk⟩
    | 6 => obtain ⟨c, i, hk⟩ := u_known (C := RX6) (T := TX6) (N := 7) (n := 7) hts zin_6 (hts _ zw_1_68); exact ⟨(c, i), fun q hq => by cases hq; exact hk⟩
    | 7 => obtain ⟨c, i, hk⟩ := u_known (C := RX8) (T := TX8) (N := 4) (n := 4) hts zin_7 (hts _ zw_1_90); exact ⟨(c, i), fun q hq => by cases hq; exact hk⟩
    | 8 => obtain ⟨c, i, hk⟩ := u_known (C := RX9) (T := TX9) (N := 3) (n := 3) hts zin_8 (hts _ zw_1_26); exact ⟨(c, i), fun q hq => by cases hq; exact hk⟩
    | 9 => obtain ⟨c, i, hk⟩ := u_known (C := RX10) (T := TX10) (N := 39) (n := 39) hts zin_9 (hts _ zw_4_125); exact ⟨(c, i), fun q hq => by cases hq; exact hk⟩
    | k + 10 => exact ⟨(default, fun _ => 0), fun q hq => by simp [vwCl] at hq⟩
  obtain ⟨f, hf⟩ : ∃ f : Nat → ClassId × (Nat → Nat), ∀ k, ∀ q : vw_C, vwCl[k]? = some q → u_Kn s q.1 q.2.1 q.2.2 (f k).1 (f k).2 := ⟨fun k => (h k).choose, fun k => (h k).choose_spec⟩
  exact ⟨(fun k => (f k).1, fun k => (f k).2), hf, fun k q hq => by simp at hq⟩
theorem zh0_T (a : Nat) : zT zh0 a = if a < 100 then zcT a else 0 := rfl
theorem zh0_nd (a : Nat) : ¬ zDy (zT zh0 a) := by
  rw [zh0_T]
  unfold zDy zcT
  split
  · split
    · omega
    · split
      · omega
      · split
        · omega
        · split
          · omega
          · split
            · omega
            · split
              · omega
              · omega
  · omega
theorem zRel0 {B0 : Nat} {cad : Nat → Nat} {ov : Value} {L : Nat} {xs : Nat → Int32} {D : va_G} {s : State} {H : Heap} (h : B0 ≤ H.size) : zRel (zGG B0 cad ov L xs) D s cad zh0 H := by
  refine ⟨h, fun g a i b hb => (by cases hb), fun a ha => absurd ha (zh0_nd a), fun a b ha => absurd ha (zh0_nd a), fun a => zcell_nd (zh0_nd a), fun a ha => ?_⟩
  rw [zh0_T] at ha ⊢
  by_cases h1 : a < 100
  · rw [if_pos h1]
    exact ⟨h1, rfl, rfl⟩
  · rw [if_neg h1] at ha
    omega
theorem zno_traces {l : Launch} (h : l.flags = flags0) : l.stackTraces = false := by
  unfold Launch.stackTraces
  rw [h]
  decide
/-! THE CLAIM OUT OF ONE WALK OF THE LAW'S BODY. Your part is whole_start (and what it stands on); all else here is the same for every law, but numbers. -/
def R_law : String := "MailSessionsLaw"
def lw_P (b : Addr) (xs : List Int32) (args : Array Value) (s : State) : Prop := args = #[.ref b] ∧ s.IntsAt b xs ∧ xs.length ≤ 256 ∧ (Jvm.Cond.and given_1 narrow_1).before args s = true
def lw_Q (_ : Array Value) (s : State) (o : Outcome) (t : State) : Prop := o = .returned (some (.int 1)) ∧ Framed s o t [] 600128 7301098
def lw_Z (below : List Frame) (a : Array Value) (s : State) : State → Prop := fun t => ∃ o, t.status = .running ∧ Ended t below o ∧ lw_Q a s o t
/-- the law's own end, with 1 on the stack, nothing written that was there before, its room as the claim has it -/
theorem lw_ret {p : Program} {l : Launch} {e : Env} {s : State} {m : MethodId} {below : List Frame} {meth : Method} {c : Code} {b : Nat} (hx : p.tables.exec = Jvm.exec) (hb : c.code = code) (hr : meth.sig.returnType = ret) (hlocks : meth.locks = false) {pc : Nat} {H : Heap} {ls : Array Slot} (hdg : decode code pc = .ok (.ireturn, 1)) : W p l e room_1 s m #[Value.ref b] below meth c H [] 600128 7301098 (lw_Z below #[Value.ref b] s) (F0 m pc ls [.int 1]) := by
  intro T hT X
  obtain ⟨fs, hret, hrun, hended, hW, hframe⟩ := X.leave (v := some (.int 1)) (hlocks := hlocks) (fun h => by rw [hr] at h; cases h)
  have hmeth' : T.vm.method? m = some meth := X.method'
  refine ⟨T.setFrames fs, ?_, .returned (some (.int 1)), hrun, hended, rfl, ⟨_, rfl⟩, hW, hframe⟩
  jvm_step X.here [X.here.top, hx, hb, hdg, hmeth', hr, ret, narrow_b1]
  (try refine ⟨rfl, ?_⟩); (try refine ⟨rfl, ?_⟩)
  first | (intro acts; rw [hret _ acts rfl rfl rfl]) | rw [hret _ _ rfl rfl rfl]
  exact Steps.refl _
/-- what holds at the law's entry: the machine, the code, the tables' words (any of lw_tbl by 'hts w (by decide +kernel)'), the script of L ints xs at the cell b, what the Statement gives of the start (any of its parts by flat_of_before) -/
def lw_At (p : Program) (s : State) (m : MethodId) (meth : Method) (c : Code) (b L : Nat) (xs : Nat → Int32) : Prop :=
  p.tables.exec = Jvm.exec ∧ c.code = code ∧ meth.sig.returnType = ret ∧ c.maxLocals = 7 ∧ s.vm.findClass R_law = some m.cls ∧ (∀ w ∈ lw_tbl, w.before #[Value.ref b] s = true) ∧ va_X b L xs s s.heap ∧ b < s.heap.size ∧ meth.locks = false ∧ (Jvm.Cond.and given_1 narrow_1).before #[Value.ref b] s = true
/-- from the entry, for every script of at most 256 ints, the law comes to its end with true -/
theorem whole_start {p : Program} {e : Env} {s : State} {m : MethodId} {below : List Frame} {meth : Method} {c : Code} (l : Launch) (hflags : l.flags = flags0) {b L : Nat} {xs : Nat → Int32} (hL : L ≤ 256) (C0 : lw_At p s m meth c b L xs) : W p l e room_1 s m #[Value.ref b] below meth c s.heap [] 0 0 (lw_Z below #[Value.ref b] s) (entryFrame m ([Value.ref b] : List Value).toArray 7) := by
  obtain ⟨hx, hb, hr, hml, hown, hts, hX, hbl, hlocks, hgv⟩ := C0
  obtain ⟨cad, ov, hov, e15, hcf⟩ := zCF_of hts hgv hX hbl
  have htb : ∀ w ∈ zTB, w.before #[Value.ref b] s = true := fun w hw => hts w (List.mem_filter.mp hw).1
  obtain ⟨D, hK⟩ := zK_of htb
  have cx : zCx (zGG s.heap.size cad ov L xs) (zM 160).1.cls (zM 160).2.1 (zM 160).2.2.1 (zini (zM 160)) D p s m #[Value.ref b] meth c :=
    ⟨hx, hb, hml, hown, htb, hK, hlocks, fun h => absurd h (by decide +kernel), hcf, Nat.le_refl _, hov⟩
  obtain ⟨H, hev, hcs, hss⟩ := zlaw_all (xs := xs) hL
  obtain ⟨n, hn⟩ := zEv_iff.mp hev
  have lr : zLR ov cad (zN zh0) 7 [.val (.ref 15), .unset, .unset, .unset, .unset, .unset, .unset] ((lg_sl ([Value.ref b]) ++ List.replicate (7 - (lg_sl ([Value.ref b])).length) Slot.unset).toArray) := by
    have h9 := zEn_ok (n := zN zh0) (nL := 7) (as := [Value.ref 15]) hov (ad := cad) (fun v hv => by
      rw [List.mem_singleton.mp hv]; exact (by decide : (15 : Nat) < 100)) (by decide)
    rw [show ([Value.ref 15] : List Value).map (zmv ov cad) = [.ref b] from congrArg (fun z => [Value.ref z]) e15] at h9
    exact h9
  rw [lg_entry_eq]
  refine zFS_all (G := zGG s.heap.size cad ov L xs) (P := zPr L xs) (M := zM) (zGG_st _ _ _ _ _) hov zPr_ok (fun _ _ => rfl) zPr_hs n _ _ _ _ _ _ _ hn l p e room_1 s m _ below meth c D (lw_Z below #[Value.ref b] s) (zno_traces hflags) cx cad s.heap [] 0 0 _ ⟨zRel0 (Nat.le_refl _), lr, fun v hv => by cases hv⟩ va_S.rf ?_ ?_ ?_ ?_ ?_ ?_ ?_
  · show 0 + zC H ≤ 600128 + zC zh0
    omega
  · show 0 + zS H ≤ 7301098 + zS zh0
    omega
  · show 36 + 10 ≤ 2048
    omega
  · show 40 * 36 + 200 ≤ 84000
    omega
  · intro pc' ls' st' h' hf ad' H' locs' cells' slots' lsr' hx' hn' ok' hS' hc' hs'
    have m0 : zC zh0 = 0 := rfl
    have m1 : zS zh0 = 0 := rfl
    rcases zPr_ok (B0 := s.heap.size) (cad := cad) (ov := ov) (L := L) (xs := xs) 160 pc' with ⟨h1, -⟩ | h1 | ⟨E, h1, h2⟩ | h1
    · obtain ⟨g, e1, -⟩ := h1 _ _ _ _ _ hf
      cases e1
    · obtain ⟨v, e1, hr1⟩ := h1 _ _ _ _ hf
      injection e1 with e1; injection e1 with e1
      injection e1 with e1 e2
      injection e1 with e1
      subst e1
      subst e2
      rcases hr1 with ⟨hd, x, ty, e1, e2, e3, e4⟩ | ⟨hd, x, e1, e2, e3⟩ | ⟨hd, x, ty, e1, e2, e3, e4, e5⟩ | ⟨hd, e1, e2, e3⟩
      · injection e2 with e2; injection e2 with e2
        subst e2
        subst e1
        exact va_forget (fun q hq => hS'.2.2 q hq) (W.widen (k := 600128) (n := 7301098) (by omega) (by omega) (lw_ret hx hb hr hlocks hd))
      · injection e2 with e2; cases e2
      · injection e2 with e2; subst e2; cases e3
      · cases e2
    · obtain ⟨e1, -⟩ := h1 _ _ _ _ hf
      injection e1 with e1; injection e1 with e1; injection e1 with e1
      cases e1
    · obtain ⟨y', as', rest, e1, -⟩ := h1 _ _ _ _ hf
      cases e1
  · intro E pc' hq
    cases hq
  · intro E pc' k hh
    exact absurd hh ((zPr_hs (B0 := s.heap.size) (cad := cad) (ov := ov) (L := L) (xs := xs)).1 160 rfl pc' E k)
set_option maxHeartbeats 4000000 in
theorem lw_walk (l : Launch) (hflags : l.flags = flags0) (b : Addr) (xs : List Int32) : MetFree l x (headSpec (Jvm.Cond.code x code maxLocals ret :: tables_1) room_1) (lw_P b xs) (fun _ _ _ _ _ => True) lw_Q := by
  refine MetFree.of_bodyS (code := code) (maxLocals := maxLocals) (ret := ret) (by decide) ?_ ?_
  · intro args s m h hn
    obtain ⟨meth, c, h1, h2, h3, h4, h5, h6, -, -⟩ := Cond.code_spec hn (atoms_spec (ws := Jvm.Cond.code x code maxLocals ret :: tables_1) h _ List.mem_cons_self)
    exact ⟨meth, c, h1, h2, h3, h4, h5, h6⟩
  · intro p e s m args below meth c s₁ B hml0 hP _
    obtain ⟨rfl, hx, hbd, hgv⟩ := hP
    obtain ⟨scr, harrAt, hlist, hof, hsmall⟩ := hx
    obtain ⟨hcb, hkn, -, -⟩ := State.arrayAt?_spec harrAt
    have hown : s.vm.findClass R_law = some m.cls := findClass_of_methodNamed B.named
    have hts0 : ∀ c ∈ (Jvm.Cond.code x code maxLocals ret :: tables_1), c.before #[Value.ref b] s = true := atoms_spec (ws := Jvm.Cond.code x code maxLocals ret :: tables_1) B.pre
    have hts : ∀ w ∈ lw_tbl, w.before #[Value.ref b] s = true := k2_hts_sels lw_privs (fun w hw => hts0 w (List.mem_cons_of_mem _ hw)) lw_privs_ok
    have hml : c.maxLocals = 7 := B.maxLocals_eq (hts0 _ List.mem_cons_self)
    have X₀ : Stand p l e room_1 s m #[Value.ref b] below meth c s₁ [] 0 0 := Stand.of_body B
    have hh0 : s₁.heap = s.heap := by rw [B.state]; rfl
    have hsz : scr.slots.size = xs.length := by rw [← Array.length_toList, hlist, List.length_map]
    have hval : ∀ j : Nat, j < xs.length → scr.slots[j]? = some (.int (xs.getD j 0)) := fun j hj => by
      rw [← Array.getElem?_toList, hlist]
      simp [hj]
    have hbl : b < s.heap.size := (Array.getElem?_eq_some_iff.mp hcb).1
    have hX : va_X b xs.length (fun j => xs.getD j 0) s s.heap := ⟨scr, hcb, hof, hkn, hsz, hval⟩
    have K : W p l e room_1 s m #[Value.ref b] below meth c s₁.heap [] 0 0 (lw_Z below #[Value.ref b] s) (entryFrame m ([Value.ref b] : List Value).toArray 7) := by
      rw [hh0]
      exact whole_start l hflags hbd ⟨B.exec, B.bytes, B.returns, hml, hown, hts, hX, hbl, B.notSynchronized, hgv⟩
    obtain ⟨t, a1, o, b1, b2, b3⟩ := K s₁ rfl X₀
    exact ⟨t, o, a1, b1, b2, b3⟩
theorem lw_pre_spec {args : Array Value} {s : State} (h : (Jvm.Cond.and given_1 narrow_1).before args s = true) (hr : rest_1_c.before args s = true) : ∃ (b : Addr) (xs : List Int32), lw_P b xs args s := by
  have hs := flat_of_before _ h
  have hq := flat_of_before _ hr
  have hc : (Cond.count 1).before args s = true := hs _ (by decide +kernel)
  have harr : (Cond.arrayOf (.arg 0) .int).before args s = true := hs _ (by decide +kernel)
  have hle : (Cond.le (.length (.arg 0)) (.int 256)).before args s = true := hs _ (by decide +kernel)
  have hlen : (Cond.isInt (.length (.arg 0))).before args s = true := hq _ (by decide +kernel)
  have hall : (Cond.all (.arg 0) (.isInt (.elem (.arg 0) (.index 0)))).before args s = true := hq _ (by decide +kernel)
  obtain ⟨b, xs, hb, hx⟩ := State.ints_of_pre rfl harr hlen hall
  have hsm : xs.length < 2 ^ 31 := hx.choose_spec.2.2.2
  have hev : (Term.length (.arg 0)).eval args s none [] s = some (.int xs.length.toInt32) := hx.length_eval hb
  have hv := Cond.le_ints hev (show (Term.int 256).eval args s none [] s = some (.int 256) from rfl)
  have hd : xs.length.toInt32 ≤ 256 := by
    simpa [Cond.before, Cond.holds, hv] using hle
  have hN : xs.length ≤ 256 := (Int32.ofNat_le_ofNat hsm (by decide)).mp (show Int32.ofNat xs.length ≤ Int32.ofNat 256 from hd)
  exact ⟨b, xs, Cond.one_arg hc (show args[0]? = some (.ref b) from hb), hx, hN, h⟩
theorem lw_comes (l : Launch) (hflags : l.flags = flags0) : Comes l x (Jvm.Cond.code x code maxLocals ret :: tables_1) room_1 (fun tb e args s => Calls_1 tb e args s ∧ rest_1 tb e args s ∧ Pre_1 tb e args s)
    (fun _ _ args s o t => lw_Q args s o t) := by
  intro p e ha hc hk s m args below hf hfit hheap happ hpre
  obtain ⟨b, xs, hP⟩ := lw_pre_spec hpre.2.2 hpre.2.1
  obtain ⟨k, o, h1, h2, h3, hQ⟩ := lw_walk l hflags b xs p e ha hc hk s m args below hf ((Spec.applies_iff_loose hf).mp happ).1 hP trivial
  exact ⟨k, o, h1, h2, h3, hQ⟩
theorem lw_frame {s t : State} {o : Outcome} {args : Array Value} (h : Framed s o t [] 600128 7301098) :
    Framed s o t (fieldLocs frame_1_writes args s ++ arrayLocs frame_1_arrays args s ++ staticLocs frame_1_statics s) 600128 7301098 := h
theorem lw_limb (L : Cond) (hL : ∀ (args : Array Value) (s t : State), L.after args s (.returned (some (.int 1))) t = true) :
    ArmFor flags0 classFile x code maxLocals ret World_1 tables_1 room_1 Calls_1 rest_1 Pre_1
      (fun tb e a s o t => postC L tb e a s o t ∧ Framed s o t (fieldLocs frame_1_writes a s ++ arrayLocs frame_1_arrays a s ++ staticLocs frame_1_statics s) 600128 7301098) := by
  intro l hflags _ _ p e ha hc hk s m args below hf hfit hheap happ hpre
  obtain ⟨k, o, h1, h2, h3, rfl, hF⟩ := lw_comes l hflags p e ha hc hk s m args below hf hfit hheap happ hpre
  exact ⟨k, _, h1, h2, h3, hL args s _, lw_frame hF⟩
theorem i_vc : Claimed_1_1 ∧ Claimed_1_2 := ⟨lw_limb limb_1_1 (fun args s t => by simp [limb_1_1, Cond.after, Cond.holds, Cond.value]), lw_limb limb_1_2 (fun args s t => Cond.after_iff.mpr (by
  first | (rw [show limb_1_2 = Cond.eq .result (.int 1) from rfl, Cond.eq_ints (x := 1) (y := 1) rfl rfl]; simp; done) | (simp [limb_1_2, Cond.value, Term.eval]; done)))⟩
