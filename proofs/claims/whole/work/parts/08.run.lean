/-! ===== calls, and runs of frames ===== -/
/-- a method: its name, bytes, locals, what it returns -/
abbrev zMI : Type := MethodName × ByteArray × Nat × Option FieldType × List (Nat × Nat × Nat × Nat)
def zcw (M : zMI) : Cond := match M.2.2.2.2 with
  | [] => Cond.code M.1 M.2.1 M.2.2.1 M.2.2.2.1
  | q :: t => Cond.codeWith M.1 M.2.1 M.2.2.1 M.2.2.2.1 (q :: t)
theorem zcw_pl {M : zMI} (h : M.2.2.2.2 = []) : zcw M = Cond.code M.1 M.2.1 M.2.2.1 M.2.2.2.1 := by
  unfold zcw
  rw [h]
theorem zcw_hh {M : zMI} (h : M.2.2.2.2 ≠ []) : zcw M = Cond.codeWith M.1 M.2.1 M.2.2.1 M.2.2.2.1 M.2.2.2.2 := by
  unfold zcw
  split
  · rename_i h9; exact absurd h9 h
  · rename_i h9; rw [h9]
def zini (M : zMI) : Bool := decide (M.1.name = "<init>")
def zWs (M : zMI) : List Cond := zcw M :: zTB
def zRm (r mc ms : Nat) : Room := { frames := r + 10, cells := mc, slots := ms, locals := 40 * r + 200 }
/-- the tables' words hold of a method -/
def zMok (M : zMI) : Prop := zcw M ∈ zTB ∧ Cond.initialized M.1.cls ∈ zTB ∧ (M.1.cls ≠ "java/lang/invoke/MethodHandle" ∧ M.1.cls ≠ "java/lang/invoke/VarHandle") ∧ M.2.2.1 ≤ 21 ∧ plainName M.1.cls = true
def zPc (G : zG) (D : va_G) (ad : Nat → Nat) (h : zH) (as : List Value) (H : Heap) : Array Value → State → Prop := fun v U => v = (as.map (zmv G.2.2.2.2 ad)).toArray ∧ U.heap = H ∧ zRel G D U ad h H ∧ va_K D vwCl [] U ∧ G.1 U ∧ G.2.1 ≤ H.size ∧ (∀ v ∈ as, zwf (zN h) v)
def zQc (G : zG) (D : va_G) (ad : Nat → Nat) (h : zH) (q : zRes) : Array Value → State → Outcome → State → Prop := fun _ st oc t => ∃ (ad' : Nat → Nat) (v : Option Value), q.1 = .inl v ∧ oc = .returned (v.map (zmv G.2.2.2.2 ad')) ∧ (∀ a, a < zN h → ad' a = ad a) ∧ zRel G D t ad' q.2 t.heap ∧ (∀ w, v = some w → zwf (zN q.2) w) ∧ va_F (zA G) st t
def zXC (G : zG) (D : va_G) (ad : Nat → Nat) (h : zH) (q : zRes) : String → State → State → Prop := fun E st t => ∃ ad' : Nat → Nat, q.1 = .inr E ∧ (∀ a, a < zN h → ad' a = ad a) ∧ zRel G D t ad' q.2 t.heap ∧ va_F (zA G) st t
def zMt (G : zG) (M : zMI) (D : va_G) (l : Launch) (ad : Nat → Nat) (h : zH) (as : List Value) (H : Heap) (r : Nat) (q : zRes) : Prop :=
  vx_Met l M.1 (zWs M) (zRm r (zC q.2 - zC h) (zS q.2 - zS h)) (zPc G D ad h as H) (zQc G D ad h q) (zXC G D ad h q) (zC q.2 - zC h) (zS q.2 - zS h) (zA G)
/-- the constants' facts stay -/
def zGst (G : zG) : Prop := ∀ s U : State, s.WarmedH U.vm → s.heap.size ≤ U.heap.size → (∀ q : Nat, q < s.heap.size → ¬ zA G q → U.heap[q]? = s.heap[q]?) → G.1 s → G.1 U
theorem zcell_moved {D : va_G} {u U : State} (hvm : u.vm.Alike U.vm) {ad : Nat → Nat} {h : zH} {H : Heap} {a : Nat} (hc : zcell D u ad h H a) : zcell D U ad h H a :=
  ⟨hc.1, fun h1 => (hc.2.1 h1).imp fun cA q => ⟨q.1, arrOfT_moved hvm q.2.1, va_RA.moved hvm q.2.2⟩, fun h1 => (hc.2.2.1 h1).imp fun cA q => ⟨q.1, arrOfT_moved hvm q.2.1, va_RA.moved hvm q.2.2⟩, fun h1 h2 => (hc.2.2.2 h1 h2).imp fun cA q => ⟨q.1, arrOfT_moved hvm q.2.1, va_RA.moved hvm q.2.2⟩⟩
theorem zRel_moved {G : zG} {D : va_G} {u U : State} (hvm : u.vm.Alike U.vm) {ad : Nat → Nat} {h : zH} {H : Heap} (rel : zRel G D u ad h H) : zRel G D U ad h H :=
  ⟨rel.1, rel.2.1, rel.2.2.1, rel.2.2.2.1, fun a => zcell_moved hvm (rel.2.2.2.2.1 a), rel.2.2.2.2.2⟩
theorem zPc_blind {G : zG} (hG : zGst G) {D : va_G} {ad : Nat → Nat} {h : zH} {as : List Value} {H : Heap} : FrameBlind (zPc G D ad h as H) := fun a U g mk q => by
  obtain ⟨q1, q2, q3, q4, q5, q6, q7⟩ := q
  exact ⟨q1, q2, zRel_moved (u := U) (U := U.calling g mk a) (Vm.Alike.refl U.vm) q3, va_K.moved (u := U) (U := U.calling g mk a) (Vm.Alike.refl U.vm) q4, hG U (U.calling g mk a) (State.WarmedH.refl U) (Nat.le_refl _) (fun _ _ _ => rfl) q5, q6, q7⟩
theorem zws_ok {s : State} {args : Array Value} (hts : ∀ w ∈ zTB, w.before args s = true) {M : zMI} (hM : zMok M) : ∀ w ∈ zWs M, ∀ (a' : Array Value) (U : State), s.WarmedH U.vm → w.before a' U = true := by
  have h1 : ∀ w ∈ zTB, ∀ (a' : Array Value) (U : State), s.WarmedH U.vm → w.before a' U = true := fun w hw a' U hW => word_at hW (good_of_word (List.mem_filter.mp hw).2) (hts w hw)
  intro w hw
  rcases List.mem_cons.mp hw with rfl | hw
  · exact h1 _ hM.1
  · exact h1 w hw
/-- a call site: the callee's contract gives the call -/
def zSite (G : zG) (Mc : zMI) (pc : Nat) (My : zMI) (ls : List Slot) (st as rest : List Value) (h : zH) : Prop :=
  ∀ (l : Launch) (p : Program) (e : Env) (R : Room) (s : State) (m : MethodId) (args : Array Value) (below : List Frame) (meth : Method) (c : Code) (D : va_G), zCx G Mc.1.cls Mc.2.1 Mc.2.2.1 (zini Mc) D p s m args meth c →
  ∀ (ad : Nat → Nat) (H : Heap) (locs : List Loc) (cells slots : Nat) (lsr : Array Slot) (r : Nat) (q : zRes), zOK G D s ad Mc.2.2.1 h H ls st lsr → va_S (zA G) s.heap H locs → zMt G My D l ad h as H r q → (My.2.2.2.2 ≠ [] → ∃ v, q.1 = .inl v) → r + 11 ≤ R.frames → 40 * r + 240 ≤ R.locals → cells + (zC q.2 - zC h) ≤ R.cells → slots + (zS q.2 - zS h) ≤ R.slots →
  vx_Run p l e R s m args below meth c H locs cells slots (zC q.2 - zC h) (zS q.2 - zS h) (F0 m pc lsr (st.map (zmv G.2.2.2.2 ad))) (rest.map (zmv G.2.2.2.2 ad)) (zQc G D ad h q (as.map (zmv G.2.2.2.2 ad)).toArray) (zXC G D ad h q) (zA G)
def zCallOK (G : zG) (M : Nat → zMI) (Mc : zMI) (pc : Nat) (op : zOp) : Prop := ∀ ls st h a, op pc ls st h = some a → ∃ (y' : Nat) (as rest : List Value), a = .inr (.inr (y', as, (pc + 3, ls, rest, h))) ∧ zMok (M y') ∧ (lg_sl as).length ≤ (M y').2.2.1 ∧ (∀ v ∈ as, zwf (zN h) v ∨ v ∈ st) ∧ (∀ v ∈ rest, v ∈ st) ∧ zSite G Mc pc (M y') ls st as rest h
/-- the ends -/
def zRetS (M : zMI) (pc : Nat) (st : List Value) (v : Option Value) : Prop :=
  (decode M.2.1 pc = .ok (.ireturn, 1) ∧ ∃ (x : Int32) (ty : FieldType), st = [.int x] ∧ v = some (.int x) ∧ M.2.2.2.1 = some ty ∧ narrow ty (.int x) = .int x) ∨
  (decode M.2.1 pc = .ok (.lreturn, 1) ∧ ∃ x : Int64, st = [.long x] ∧ v = some (.long x) ∧ M.2.2.2.1 = some .long) ∨
  (decode M.2.1 pc = .ok (.areturn, 1) ∧ ∃ (w : Value) (ty : FieldType), st = [w] ∧ v = some w ∧ zIsR w = true ∧ M.2.2.2.1 = some ty ∧ ((∃ n, ty = .object n) ∨ ∃ t, ty = .array t)) ∨
  (decode M.2.1 pc = .ok (.return_, 1) ∧ st = [] ∧ v = none ∧ M.2.2.2.1 = none)
def zRetOK (M : zMI) (pc : Nat) (op : zOp) : Prop := ∀ ls st h a, op pc ls st h = some a → ∃ v : Option Value, a = .inr (.inl (.inl v, h)) ∧ zRetS M pc st v
def zThrW (G : zG) (M : zMI) (pc : Nat) (E : String) : Prop :=
  ∀ (l : Launch) (p : Program) (e : Env) (R : Room) (s : State) (m : MethodId) (args : Array Value) (below : List Frame) (meth : Method) (c : Code) (D : va_G), l.stackTraces = false → zCx G M.1.cls M.2.1 M.2.2.1 (zini M) D p s m args meth c → (∀ x ∈ c.exceptionTable.toList, False) →
  ∀ (H : Heap) (locs : List Loc) (cells slots mc ms : Nat) (lsr : Array Slot) (rest : List Value) (Qc : Array Value → State → Outcome → State → Prop) (XC : String → State → State → Prop), lsr.size = M.2.2.1 → va_S (zA G) s.heap H locs → 10 ≤ R.frames → 200 ≤ R.locals → cells + 1 ≤ R.cells → slots + 6 ≤ R.slots → rest.length ≤ 8 → cells + 1 ≤ mc → slots + 6 ≤ ms →
  (∀ t : State, s.vm.Alike t.vm → H.size ≤ t.heap.size → (∀ q : Nat, q < H.size → t.heap[q]? = H[q]?) → XC E s t) →
  W p l e R s m args below meth c H locs cells slots (vx_MQ below Qc XC args s mc ms (zA G)) (F0 m pc lsr rest)
def zThrOK (G : zG) (M : zMI) (pc : Nat) (op : zOp) : Prop := ∃ E : String, (∀ ls st h a, op pc ls st h = some a → a = .inr (.inl (.inr E, zExc h)) ∧ st.length ≤ 8) ∧ zThrW G M pc E
def zOkOp (G : zG) (M : Nat → zMI) (Mc : zMI) (pc : Nat) (op : zOp) : Prop :=
  (zGoK op ∧ zSnd G Mc.1.cls Mc.2.1 Mc.2.2.1 (zini Mc) pc op) ∨ zRetOK Mc pc op ∨ zThrOK G Mc pc op ∨ zCallOK G M Mc pc op
/-- the counters never fall -/
theorem zRun_mono {G : zG} {P : zP} {M : Nat → zMI} (hP : ∀ y pc, zOkOp G M (M y) pc (P.1 y pc)) : ∀ n r y pc ls st h q, zRun P n r y pc ls st h = some q → zC h ≤ zC q.2 ∧ zS h ≤ zS q.2 ∧ zN h ≤ zN q.2 := by
  intro n
  induction n with
  | zero => intro r y pc ls st h q he; cases he
  | succ n ih =>
    intro r y pc ls st h q he
    have he : zStep P (zRun P n) r y pc ls st h = some q := he
    unfold zStep at he
    cases hc : P.1 y pc pc ls st h with
    | none => rw [hc] at he; cases he
    | some a =>
      rw [hc] at he
      rcases hP y pc with ⟨h1, -⟩ | h1 | ⟨E, h1, -⟩ | h1
      · obtain ⟨g, rfl, k1, k2, k3⟩ := h1 _ _ _ _ _ hc
        have := ih _ _ _ _ _ _ _ he
        omega
      · obtain ⟨v, rfl, -⟩ := h1 _ _ _ _ hc
        injection he with he
        subst he
        exact ⟨Nat.le_refl _, Nat.le_refl _, Nat.le_refl _⟩
      · obtain ⟨rfl, -⟩ := h1 _ _ _ _ hc
        injection he with he
        subst he
        exact ⟨Nat.le_succ _, Nat.le_add_right _ _, Nat.le_refl _⟩
      · obtain ⟨y', as, rest, rfl, -⟩ := h1 _ _ _ _ hc
        dsimp only at he
        by_cases hr : P.2.1 y' as < r
        · rw [if_pos hr] at he
          cases hq : zRun P n (P.2.1 y' as) y' 0 (P.2.2.1 y' as) [] h with
          | none => rw [hq] at he; cases he
          | some q1 =>
            rw [hq] at he
            have i1 := ih _ _ _ _ _ _ _ hq
            unfold zCont at he
            obtain ⟨v | E, h2⟩ := q1
            · have i2 := ih _ _ _ _ _ _ _ he
              dsimp only at i1
              omega
            · dsimp only at he i1
              cases hh : P.2.2.2 y pc E with
              | none => rw [hh] at he; cases he
              | some o =>
                rw [hh] at he
                cases o with
                | none =>
                  injection he with he
                  subst he
                  exact i1
                | some k =>
                  have i2 := ih _ _ _ _ _ _ _ he
                  have e1 : zC (zOpq h2) = zC h2 := rfl
                  have e2 : zS (zOpq h2) = zS h2 := rfl
                  have e3 : zN (zOpq h2) = zN h2 + 1 := rfl
                  omega
        · rw [if_neg hr] at he; cases he
theorem zRel_opq {G : zG} {D : va_G} {s : State} {ad : Nat → Nat} {h : zH} {H : Heap} (rel : zRel G D s ad h H) (q : Nat) : zRel G D s (va_up ad (zN h) q) (zOpq h) H := by
  obtain ⟨r1, r2, r3, r4, r5, r6⟩ := rel
  have hx : ∀ a, a < zN h → va_up ad (zN h) q a = ad a := fun a ha => va_up_ne _ _ (by omega)
  have hTn : ∀ a, a ≠ zN h → zT (zOpq h) a = zT h a := fun a ha => if_neg ha
  have hT0 : zT (zOpq h) (zN h) = 0 := if_pos rfl
  have hN : zN (zOpq h) = zN h + 1 := rfl
  have hnd : ∀ a, zDy (zT (zOpq h) a) → a ≠ zN h ∧ zDy (zT h a) := fun a ha => by
    by_cases e : a = zN h
    · subst e; rw [hT0] at ha; unfold zDy at ha; omega
    · rw [hTn a e] at ha; exact ⟨e, ha⟩
  refine ⟨r1, fun g a i b hb => Nat.lt_succ_of_lt (r2 g a i b hb), fun a ha => ?_, fun a b ha hb e => ?_, fun a => ?_, fun a ha => ?_⟩
  · obtain ⟨e, ha⟩ := hnd a ha
    have h3 := r3 a ha
    rw [hx a h3.1, hN]
    exact ⟨by omega, h3.2⟩
  · obtain ⟨e1, ha⟩ := hnd a ha
    obtain ⟨e2, hb⟩ := hnd b hb
    rw [hx a (r3 a ha).1, hx b (r3 b hb).1] at e
    exact r4 a b ha hb e
  · by_cases hd : zDy (zT (zOpq h) a)
    · obtain ⟨e, ha⟩ := hnd a hd
      exact zcell_congr (hTn a e) rfl (fun g i => rfl) (fun g i => rfl) (fun g i => zmap_congr hx (r2 g a i)) (hx a (r3 a ha).1) rfl (r5 a)
    · exact zcell_nd hd
  · by_cases e : a = zN h
    · subst e; rw [hT0] at ha; omega
    · rw [hTn a e] at ha ⊢
      have h6 := r6 a ha
      rw [hx a h6.1, hN]
      exact ⟨by omega, h6.2⟩
/-- frames: a run of the abstract machine is one of the machine -/
def zFS (G : zG) (P : zP) (M : Nat → zMI) (n : Nat) : Prop := ∀ r y pc ls st h q, zRun P n r y pc ls st h = some q →
  ∀ (l : Launch) (p : Program) (e : Env) (R : Room) (s : State) (m : MethodId) (args : Array Value) (below : List Frame) (meth : Method) (c : Code) (D : va_G) (Q : State → Prop), l.stackTraces = false → zCx G (M y).1.cls (M y).2.1 (M y).2.2.1 (zini (M y)) D p s m args meth c →
  ∀ (ad : Nat → Nat) (H : Heap) (locs : List Loc) (cells slots : Nat) (lsr : Array Slot), zOK G D s ad (M y).2.2.1 h H ls st lsr → va_S (zA G) s.heap H locs → cells + zC q.2 ≤ R.cells + zC h → slots + zS q.2 ≤ R.slots + zS h → r + 10 ≤ R.frames → 40 * r + 200 ≤ R.locals →
  (∀ pc' ls' st' h', P.1 y pc' pc' ls' st' h' = some (.inr (.inl q)) → ∀ (ad' : Nat → Nat) (H' : Heap) (locs' : List Loc) (cells' slots' : Nat) (lsr' : Array Slot), (∀ a, a < zN h → ad' a = ad a) → zN h ≤ zN h' → zOK G D s ad' (M y).2.2.1 h' H' ls' st' lsr' → va_S (zA G) s.heap H' locs' → cells' + zC h = cells + zC h' → slots' + zS h = slots + zS h' → W p l e R s m args below meth c H' locs' cells' slots' Q (F0 m pc' lsr' (st'.map (zmv G.2.2.2.2 ad')))) →
  (∀ E pc', q.1 = .inr E → P.2.2.2 y pc' E = some none → ∀ (ad' : Nat → Nat) (H' : Heap) (locs' : List Loc) (cells' slots' : Nat) (lsr' : Array Slot) (rest : List Value) (qa : Nat) (ce : Cell), (∀ a, a < zN h → ad' a = ad a) → zRel G D s ad' q.2 H' → va_S (zA G) s.heap H' locs' → cells' + zC h = cells + zC q.2 → slots' + zS h = slots + zS q.2 → H'[qa]? = some ce → ce.vm = .none → s.vm.findClass E = some ce.cls → vx_W p l e R s m args below meth c H' locs' cells' slots' Q (F0 m pc' lsr' rest) qa) →
  (∀ E pc' k, P.2.2.2 y pc' E = some (some k) → ∀ (H' : Heap) (locs' : List Loc) (cells' slots' : Nat) (lsr' : Array Slot) (rest : List Value) (qa : Nat) (ce : Cell), H'[qa]? = some ce → ce.vm = .none → s.vm.findClass E = some ce.cls → W p l e R s m args below meth c H' locs' cells' slots' Q (F0 m k lsr' [.ref qa]) → vx_W p l e R s m args below meth c H' locs' cells' slots' Q (F0 m pc' lsr' rest) qa) →
  W p l e R s m args below meth c H locs cells slots Q (F0 m pc lsr (st.map (zmv G.2.2.2.2 ad)))
def zMS (G : zG) (P : zP) (M : Nat → zMI) (n : Nat) : Prop := ∀ y as h q, zMok (M y) → (lg_sl as).length ≤ (M y).2.2.1 → zRun P n (P.2.1 y as) y 0 (P.2.2.1 y as) [] h = some q → ∀ (D : va_G) (l : Launch) (ad : Nat → Nat) (H : Heap), l.stackTraces = false → zMt G (M y) D l ad h as H (P.2.1 y as) q
theorem zFS_zero (G : zG) (P : zP) (M : Nat → zMI) : zFS G P M 0 := fun r y pc ls st h q he => by cases he
theorem zFS_succ {G : zG} {P : zP} {M : Nat → zMI} (hnr : ∀ n r y pc ls st h q, (M y).2.2.2.2 ≠ [] → zRun P n r y pc ls st h = some q → ∃ v, q.1 = .inl v) (hP : ∀ y pc, zOkOp G M (M y) pc (P.1 y pc)) {n : Nat} (FS : zFS G P M n) (MS : zMS G P M n) : zFS G P M (n + 1) := by
  intro r y pc ls st h q he l p e R s m args below meth c D Q hl cx ad H locs cells slots lsr ok hS hc hs hRf hRl K KX KC
  have he0 := he
  have he : zStep P (zRun P n) r y pc ls st h = some q := he
  unfold zStep at he
  cases hop : P.1 y pc pc ls st h with
  | none => rw [hop] at he; cases he
  | some a =>
    rw [hop] at he
    rcases hP y pc with ⟨h1, h2⟩ | h1 | ⟨E, h1, h2⟩ | h1
    · obtain ⟨⟨pc1, ls1, st1, hp1⟩, rfl, k1, k2, k3⟩ := h1 _ _ _ _ _ hop
      have mono := zRun_mono hP _ _ _ _ _ _ _ _ he
      dsimp only at he mono k1 k2 k3
      refine h2 ls st h pc1 ls1 st1 hp1 hop l p e R s m args below meth c D Q cx ad H locs cells slots lsr ok hS (by omega) (by omega) ⟨by omega, by omega⟩ ?_
      intro ad1 H1 locs1 cells1 slots1 lsr1 hx1 hn1 ok1 hS1 hc1 hs1
      refine FS _ _ _ _ _ _ _ he l p e R s m args below meth c D Q hl cx ad1 H1 locs1 cells1 slots1 lsr1 ok1 hS1 (by omega) (by omega) hRf hRl ?_ ?_ KC
      · intro pc2 ls2 st2 h2' hf ad2 H2 locs2 cells2 slots2 lsr2 hx2 hn2 ok2 hS2 hc2 hs2
        exact K pc2 ls2 st2 h2' hf ad2 H2 locs2 cells2 slots2 lsr2 (fun a ha => (hx2 a (by omega)).trans (hx1 a ha)) (by omega) ok2 hS2 (by omega) (by omega)
      · intro E pc2 hq hh ad2 H2 locs2 cells2 slots2 lsr2 rest qa ce hx2 rel2 hS2 hc2 hs2
        exact KX E pc2 hq hh ad2 H2 locs2 cells2 slots2 lsr2 rest qa ce (fun a ha => (hx2 a (by omega)).trans (hx1 a ha)) rel2 hS2 (by omega) (by omega)
    · obtain ⟨v, rfl, -⟩ := h1 _ _ _ _ hop
      injection he with he
      subst he
      exact K pc ls st h hop ad H locs cells slots lsr (fun _ _ => rfl) (Nat.le_refl _) ok hS rfl rfl
    · obtain ⟨rfl, -⟩ := h1 _ _ _ _ hop
      injection he with he
      subst he
      exact K pc ls st h hop ad H locs cells slots lsr (fun _ _ => rfl) (Nat.le_refl _) ok hS rfl rfl
    · obtain ⟨y', as, rest, rfl, hM, hfit, hw1, hw2, site⟩ := h1 _ _ _ _ hop
      dsimp only at he
      by_cases hr : P.2.1 y' as < r
      · rw [if_pos hr] at he
        cases hq : zRun P n (P.2.1 y' as) y' 0 (P.2.2.1 y' as) [] h with
        | none => rw [hq] at he; cases he
        | some q1 =>
          rw [hq] at he
          have m1 := zRun_mono hP _ _ _ _ _ _ _ _ hq
          have hMt := MS y' as h q1 hM hfit hq D l ad H hl
          have m2 : zC q1.2 ≤ zC q.2 ∧ zS q1.2 ≤ zS q.2 ∧ zN q1.2 ≤ zN q.2 := by
            unfold zCont at he
            obtain ⟨v | E, h2⟩ := q1
            · exact zRun_mono hP _ _ _ _ _ _ _ _ he
            · dsimp only at he
              cases hh : P.2.2.2 y pc E with
              | none => rw [hh] at he; cases he
              | some o =>
                rw [hh] at he
                cases o with
                | none => injection he with he; subst he; exact ⟨Nat.le_refl _, Nat.le_refl _, Nat.le_refl _⟩
                | some k =>
                  have := zRun_mono hP _ _ _ _ _ _ _ _ he
                  have e1 : zC (zOpq h2) = zC h2 := rfl
                  have e2 : zS (zOpq h2) = zS h2 := rfl
                  have e3 : zN (zOpq h2) = zN h2 + 1 := rfl
                  dsimp only
                  omega
          have run := site l p e R s m args below meth c D cx ad H locs cells slots lsr (P.2.1 y' as) q1 ok hS hMt (fun hh => hnr _ _ _ _ _ _ _ _ hh hq) (by omega) (by omega) (by omega) (by omega)
          have keep : ∀ (st₀ t T' : State) (L : List Loc), st₀.heap = H → T'.heap = t.heap → (∀ z ∈ L, zA G z.base) → va_F (zA G) st₀ t → va_S (zA G) s.heap T'.heap (locs ++ L) := fun st₀ t T' L e0 e1 hL hF =>
            (vx_keep (A0 := zA G) (A1 := zA G) (free := zA G) e0 e1 hS (fun _ _ h => h) (fun _ h => h) hL hF).2.2
          intro T hT X
          rcases run T hT X with ⟨v, st₀, t, T', L, e0, X', hL, e1, e2, ⟨ad1, v1, g1, g2, g3, g5, g6, g7⟩, goes⟩ | ⟨qa, st₀, t, T', L, E, ce, e0, X', hL, e1, e2, ⟨ad1, g1, g3, g5, g7⟩, hce, hcv, hcl, steps⟩
          · have alike : t.vm.Alike s.vm := by rw [← e2]; exact X'.warmed.alike.symm
            obtain ⟨q1a, h2⟩ := q1
            dsimp only at g1 m1 m2 g5 g6 hMt run X'
            subst g1
            have he : zRun P n r y (pc + 3) ls (v1.toList ++ rest) h2 = some q := he
            have hv : v = v1.map (zmv G.2.2.2.2 ad1) := by injection g2
            subst hv
            have rel1 : zRel G D s ad1 h2 T'.heap := by rw [e1]; exact zRel_moved alike g5
            have hwr : ∀ w ∈ rest, zwf (zN h) w := fun w hw => ok.2.2 w (hw2 w hw)
            have ok1 : zOK G D s ad1 (M y).2.2.1 h2 T'.heap ls (v1.toList ++ rest) lsr := ⟨rel1, zLR_ext g3 m1.2.2 ok.2.1, fun w hw => by
              rcases List.mem_append.mp hw with hw | hw
              · exact g6 w (Option.mem_toList.mp hw)
              · exact zwf_mono m1.2.2 (hwr w hw)⟩
            have kk := FS _ _ _ _ _ _ _ he l p e R s m args below meth c D Q hl cx ad1 T'.heap (locs ++ L) (cells + (zC h2 - zC h)) (slots + (zS h2 - zS h)) lsr ok1 (keep st₀ t T' L e0 e1 hL g7) (by omega) (by omega) hRf hRl
              (fun pc2 ls2 st2 h2' hf ad2 H2 locs2 cells2 slots2 lsr2 hx2 hn2 ok2 hS2 hc2 hs2 => K pc2 ls2 st2 h2' hf ad2 H2 locs2 cells2 slots2 lsr2 (fun a ha => (hx2 a (by omega)).trans (g3 a ha)) (by omega) ok2 hS2 (by omega) (by omega))
              (fun E pc2 hq hh ad2 H2 locs2 cells2 slots2 lsr2 rest2 qa ce hx2 rel2 hS2 hc2 hs2 => KX E pc2 hq hh ad2 H2 locs2 cells2 slots2 lsr2 rest2 qa ce (fun a ha => (hx2 a (by omega)).trans (g3 a ha)) rel2 hS2 (by omega) (by omega)) KC
            rw [List.map_append, show (v1.toList).map (zmv G.2.2.2.2 ad1) = (v1.map (zmv G.2.2.2.2 ad1)).toList from by cases v1 <;> rfl, zst_congr g3 hwr] at kk
            obtain ⟨t2, a1, b1⟩ := kk T' rfl X'
            exact ⟨t2, goes t2 a1, b1⟩
          · have alike : t.vm.Alike s.vm := by rw [← e2]; exact X'.warmed.alike.symm
            obtain ⟨q1a, h2⟩ := q1
            dsimp only at g1 m1 m2 g5 hMt run X'
            subst g1
            have rel1 : zRel G D s ad1 h2 T'.heap := by rw [e1]; exact zRel_moved alike g5
            have hS1 := keep st₀ t T' L e0 e1 hL g7
            have hce1 : T'.heap[qa]? = some ce := by rw [e1]; exact hce
            have he : zCont P (zRun P n) r y pc (pc + 3, ls, rest, h) (some (.inr E, h2)) = some q := he
            unfold zCont at he
            dsimp only at he
            have fin : vx_W p l e R s m args below meth c T'.heap (locs ++ L) (cells + (zC h2 - zC h)) (slots + (zS h2 - zS h)) Q (F0 m pc lsr (rest.map (zmv G.2.2.2.2 ad))) qa := by
              cases hh : P.2.2.2 y pc E with
              | none => rw [hh] at he; cases he
              | some o =>
                rw [hh] at he
                cases o with
                | none =>
                  injection he with he
                  subst he
                  exact KX E pc rfl hh ad1 T'.heap _ _ _ lsr _ qa ce g3 rel1 hS1 (by dsimp only at m1 ⊢; omega) (by dsimp only at m1 ⊢; omega) hce1 hcv hcl
                | some k =>
                  refine KC E pc k hh T'.heap _ _ _ lsr _ qa ce hce1 hcv hcl ?_
                  have hxo : ∀ a, a < zN h2 → va_up ad1 (zN h2) qa a = ad1 a := fun a ha => va_up_ne _ _ (by omega)
                  have e1' : zC (zOpq h2) = zC h2 := rfl
                  have e2' : zS (zOpq h2) = zS h2 := rfl
                  have e3' : zN (zOpq h2) = zN h2 + 1 := rfl
                  have hx9 : ∀ a, a < zN h → va_up ad1 (zN h2) qa a = ad a := fun a ha => (hxo a (by omega)).trans (g3 a ha)
                  have kk := FS _ _ _ _ _ _ _ he l p e R s m args below meth c D Q hl cx (va_up ad1 (zN h2) qa) T'.heap (locs ++ L) (cells + (zC h2 - zC h)) (slots + (zS h2 - zS h)) lsr ⟨zRel_opq rel1 qa, zLR_ext hx9 (by omega) ok.2.1, fun w hw => by
                      rw [List.mem_singleton.mp hw]; exact Nat.lt_succ_self _⟩ hS1 (by omega) (by omega) hRf hRl
                    (fun pc2 ls2 st2 h2' hf ad2 H2 locs2 cells2 slots2 lsr2 hx2 hn2 ok2 hS2 hc2 hs2 => K pc2 ls2 st2 h2' hf ad2 H2 locs2 cells2 slots2 lsr2 (fun a ha => (hx2 a (by omega)).trans (hx9 a ha)) (by omega) ok2 hS2 (by omega) (by omega))
                    (fun E pc2 hq hh ad2 H2 locs2 cells2 slots2 lsr2 rest2 qa ce hx2 rel2 hS2 hc2 hs2 => KX E pc2 hq hh ad2 H2 locs2 cells2 slots2 lsr2 rest2 qa ce (fun a ha => (hx2 a (by omega)).trans (hx9 a ha)) rel2 hS2 (by omega) (by omega)) KC
                  rw [show ([Value.ref (zN h2)] : List Value).map (zmv G.2.2.2.2 (va_up ad1 (zN h2) qa)) = [.ref qa] from congrArg (fun z => [Value.ref z]) (va_up_self _ _ _)] at kk
                  exact kk
            obtain ⟨t2, a1, b1⟩ := fin T' rfl X'
            exact ⟨t2, steps.trans a1, b1⟩
      · rw [if_neg hr] at he; cases he
