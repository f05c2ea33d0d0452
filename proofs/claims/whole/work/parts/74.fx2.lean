/-! ===== the class's heap: cells that are made, Strings ===== -/
theorem zFx_n {h : zH} (hx : zFx h) : 155 ≤ zN h := hx.1
theorem zMH_new {h : zH} {m : zMm} {t n k : Nat} (hn : 154 ≤ zN h) : zNew (zMH h m) t n k = zMH (zNew h t n k) m := by
  have e : (fun g a i => if a = zN h then (0 : Int32) else if 100 ≤ a ∧ a < 154 then nI (m g a i) else zI h g a i) = fun g a i => if 100 ≤ a ∧ a < 154 then nI (m g a i) else if a = zN h then 0 else zI h g a i := by
    funext g a i
    by_cases q : a = zN h
    · rw [if_pos q, if_neg (by omega), if_pos q]
    · rw [if_neg q, if_neg q]
  show ((zN h + 1, zC h + 1, zS h + k), (fun a => if a = zN h then t else zT h a), (fun a => if a = zN h then n else zE h a), (fun g a i => if a = zN h then (0 : Int32) else if 100 ≤ a ∧ a < 154 then nI (m g a i) else zI h g a i), (fun g a i => if a = zN h then (0 : Int64) else zL h g a i), (fun g a i => if a = zN h then (none : Option Nat) else zR h g a i)) = _
  rw [e]
  rfl
theorem zFx_new {h : zH} (hx : zFx h) {t n k : Nat} : zFx (zNew h t n k) := by
  have hn := hx.1
  have eT : ∀ a, a < 155 → zT (zNew h t n k) a = zT h a := fun a ha => if_neg (by omega)
  have eE : ∀ a, a < 155 → zE (zNew h t n k) a = zE h a := fun a ha => if_neg (by omega)
  refine ⟨show 155 ≤ zN h + 1 by omega, fun a h1 h2 => ?_, fun q hq => ?_, fun a ha => ?_⟩
  · rw [eT a h2, eE a h2]; exact hx.2.1 a h1 h2
  · have lt : ∀ q ∈ zfRl, q.2.1 < 155 := by decide
    have := lt q hq
    show (if q.2.1 = zN h then none else zR h q.1 q.2.1 q.2.2.1) = _
    rw [if_neg (by omega)]
    exact hx.2.2.1 q hq
  · rw [eT a (by omega)]; exact hx.2.2.2 a ha
/-- references are written where none is fixed -/
theorem zFx_sR {h : zH} (hx : zFx h) {g a i : Nat} {x : Option Nat} (hn : ∀ q ∈ zfRl, ¬ (q.1 = g ∧ q.2.1 = a ∧ q.2.2.1 = i)) : zFx (zsR h g a i x) := by
  refine ⟨hx.1, hx.2.1, fun q hq => ?_, hx.2.2.2⟩
  show (if q.1 = g ∧ q.2.1 = a ∧ q.2.2.1 = i then x else zR h q.1 q.2.1 q.2.2.1) = _
  rw [if_neg (hn q hq)]
  exact hx.2.2.1 q hq
theorem zFx_sR0 {h : zH} (hx : zFx h) {a i : Nat} {x : Option Nat} (ha : a ≠ 101 ∧ a ≠ 110) : zFx (zsR h 0 a i x) := zFx_sR hx fun q hq e => by
  have : ∀ q ∈ zfRl, q.1 = 0 → q.2.1 = 101 ∨ q.2.1 = 110 := by decide
  have := this q hq e.1
  omega
theorem zFx_sRd {h : zH} (hx : zFx h) {g a i : Nat} {x : Option Nat} (ha : 154 ≤ a) : zFx (zsR h g a i x) := zFx_sR hx fun q hq e => by
  have : ∀ q ∈ zfRl, q.2.1 < 154 := by decide
  have := this q hq
  omega
theorem zFx_sRg {h : zH} (hx : zFx h) {g a i : Nat} {x : Option Nat} (hg : ∀ q ∈ zfRl, q.1 ≠ g) : zFx (zsR h g a i x) := zFx_sR hx fun q hq e => hg q hq e.1
theorem zNew_T {h : zH} {t n k : Nat} : zT (zNew h t n k) (zN h) = t := if_pos rfl
theorem zNew_E {h : zH} {t n k : Nat} : zE (zNew h t n k) (zN h) = n := if_pos rfl
section
variable {P : zP} {r y pc : Nat} {ls : List Slot} {st : List Value} {h : zH} {m : zMm} {H : zH}
theorem k_new {t k : Nat} (ho : P.1 y pc = o_new t k) (hx : zFx h) : zEv P r y pc ls st (zMH h m) = zEv P r y (pc + 3) ls (.ref (zN h) :: st) (zMH (zNew h t 0 k) m) := by
  have hn := hx.1
  rw [← zMH_new (by omega)]
  exact zEv_go ho rfl
theorem k_newa {t n x : Nat} (ho : P.1 y pc = o_newa t n) (hx : zFx h) (hb : x ≤ 65536) : zEv P r y pc ls (.int (nI x) :: st) (zMH h m) = zEv P r y (pc + n) ls (.ref (zN h) :: st) (zMH (zNew h t x x) m) := by
  have hn := hx.1
  rw [← zMH_new (by omega)]
  refine zEv_go ho ?_
  unfold o_newa
  dsimp only
  rw [if_pos ⟨zi_nneg (by omega), by rw [zi_clamp (by omega)]; exact hb⟩, zi_clamp (by omega)]
  rfl
theorem k_alen {a n : Nat} (ho : P.1 y pc = o_alen) (ht : 20 ≤ zT h a ∧ zT h a ≤ 24) (he : zE h a = n) : zEv P r y pc ls (.ref a :: st) (zMH h m) = zEv P r y (pc + 1) ls (.int (nI n) :: st) (zMH h m) := by
  rw [zEv_go ho (show o_alen pc ls (.ref a :: st) (zMH h m) = some (.inl (pc + 1, ls, .int (nI (zE h a)) :: st, zMH h m)) from if_pos (Or.inl ht)), he]
/-- bytes: made here, or a literal's -/
def zBy (h : zH) (q : Nat) (T : List Nat) : Prop := ((154 ≤ q ∧ q < zN h) ∧ zT h q = 24 ∧ zE h q = T.length ∧ ∀ i, i < T.length → zI h 0 q i = nI (T.getD i 0)) ∨ (zT h q = 42 ∧ T = zByt.getD (q - 60) [])
/-- a String: made here, or a literal -/
def zSt (h : zH) (p : Nat) (T : List Nat) : Prop := ((∀ x ∈ T, x < 127) ∧ T.length ≤ 64) ∧ ∃ q, zBy h q T ∧ (((154 ≤ p ∧ p < zN h) ∧ zT h p = 1 ∧ zI h 51 p 0 = 0 ∧ zR h 50 p 0 = some q ∧ (zT h q = 24 ∨ q = 93)) ∨ (zT h p = 41 ∧ zT h (40 + p) = 42 ∧ q = 40 + p ∧ p < 54))
theorem zSt_t {p : Nat} {T : List Nat} (hs : zSt h p T) : zT (zMH h m) p = 1 ∨ zT (zMH h m) p = 41 := by
  obtain ⟨-, q, -, z | z⟩ := hs
  · exact Or.inl z.2.1
  · exact Or.inr z.1
theorem zSt_k (hx : zFx h) {p : Nat} (hp : 20 ≤ p ∧ p < 54) : zSt h p (zByt.getD (p - 20) []) := by
  have b : ∀ k, k < 34 → (∀ x ∈ zByt.getD k [], x < 127) ∧ (zByt.getD k []).length ≤ 64 := by decide
  have t1 : ∀ k, k < 34 → zcT (20 + k) = 41 ∧ zcT (60 + k) = 42 := by decide
  obtain ⟨k, hk⟩ : ∃ k, p = 20 + k := ⟨p - 20, by omega⟩
  have k34 : k < 34 := by omega
  refine ⟨by rw [hk, Nat.add_sub_cancel_left]; exact b k k34, 40 + p, Or.inr ⟨?_, ?_⟩, Or.inr ⟨?_, ?_, rfl, hp.2⟩⟩
  · rw [hx.2.2.2 _ (by omega), show 40 + p = 60 + k by omega]; exact (t1 k k34).2
  · rw [show 40 + p - 60 = p - 20 by omega]
  · rw [hx.2.2.2 _ (by omega), hk]; exact (t1 k k34).1
  · rw [hx.2.2.2 _ (by omega), show 40 + p = 60 + k by omega]; exact (t1 k k34).2
theorem k_sval {p q : Nat} (ho : P.1 y pc = o_sval) (hs : ((154 ≤ p ∧ p < zN h) ∧ zT h p = 1 ∧ zI h 51 p 0 = 0 ∧ zR h 50 p 0 = some q ∧ (zT h q = 24 ∨ q = 93)) ∨ (zT h p = 41 ∧ zT h (40 + p) = 42 ∧ q = 40 + p ∧ p < 54)) : zEv P r y pc ls (.ref p :: st) (zMH h m) = zEv P r y (pc + 3) ls (.ref q :: st) (zMH h m) := by
  refine zEv_go ho ?_
  show (if zT h p = 1 then some (Sum.inl (pc + 3, ls, va_rf (zR h (zgf 0 0) p 0) :: st, zMH h m)) else if zT h p = 41 ∧ zT h (40 + p) = 42 then some (.inl (pc + 3, ls, .ref (40 + p) :: st, zMH h m)) else none) = _
  rcases hs with ⟨-, h1, -, h2⟩ | ⟨h1, h2, h3⟩
  · rw [if_pos h1, show zR h (zgf 0 0) p 0 = some q from h2.1]; rfl
  · rw [if_neg (by omega), if_pos ⟨h1, h2⟩, h3.1]
theorem k_scod {p q : Nat} (ho : P.1 y pc = o_scod) (hs : ((154 ≤ p ∧ p < zN h) ∧ zT h p = 1 ∧ zI h 51 p 0 = 0 ∧ zR h 50 p 0 = some q ∧ (zT h q = 24 ∨ q = 93)) ∨ (zT h p = 41 ∧ zT h (40 + p) = 42 ∧ q = 40 + p ∧ p < 54)) : zEv P r y pc ls (.ref p :: st) (zMH h m) = zEv P r y (pc + 3) ls (.int 0 :: st) (zMH h m) := by
  refine zEv_go ho ?_
  show (if zT h p = 1 then some (Sum.inl (pc + 3, ls, .int (zI (zMH h m) (zgf 0 1) p 0) :: st, zMH h m)) else if zT h p = 41 then some (.inl (pc + 3, ls, .int 0 :: st, zMH h m)) else none) = _
  rcases hs with ⟨h0, h1, h2, -⟩ | ⟨h1, h2, h3⟩
  · rw [if_pos h1, zMH_D h0.1, show zI h (zgf 0 1) p 0 = 0 from h2]
  · rw [if_neg (by omega), if_pos h1]
theorem k_blen {q : Nat} {T : List Nat} (ho : P.1 y pc = o_blen) (hb : zBy h q T) : zEv P r y pc ls (.ref q :: st) (zMH h m) = zEv P r y (pc + 1) ls (.int (nI T.length) :: st) (zMH h m) := by
  refine zEv_go ho ?_
  show (if (20 ≤ zT h q ∧ zT h q ≤ 24) ∨ (31 ≤ zT h q ∧ zT h q ≤ 33) then some (Sum.inl (pc + 1, ls, .int (nI (zE h q)) :: st, zMH h m)) else if zT h q = 42 then some (.inl (pc + 1, ls, .int (nI (zbl (q - 60))) :: st, zMH h m)) else none) = _
  rcases hb with ⟨-, h1, h2, -⟩ | ⟨h1, h2⟩
  · rw [if_pos (by omega), h2]
  · rw [if_neg (by omega), if_pos h1, h2]; rfl
theorem k_bald {q i : Nat} {T : List Nat} (ho : P.1 y pc = o_bald) (hb : zBy h q T) (hT : T.length ≤ 64) (hi : i < T.length) : zEv P r y pc ls (.int (nI i) :: .ref q :: st) (zMH h m) = zEv P r y (pc + 1) ls (.int (nI (T.getD i 0)) :: st) (zMH h m) := by
  have e : (nI i).toNatClampNeg = i := zi_clamp (by omega)
  refine zEv_go ho ?_
  show (if zT h q = 24 ∧ ¬ nI i < 0 ∧ (nI i).toNatClampNeg < zE h q then some (Sum.inl (pc + 1, ls, .int (zI (zMH h m) 0 q (nI i).toNatClampNeg) :: st, zMH h m)) else if zT h q = 42 ∧ ¬ nI i < 0 ∧ (nI i).toNatClampNeg < zbl (q - 60) then some (.inl (pc + 1, ls, .int (zbv (q - 60) (nI i).toNatClampNeg) :: st, zMH h m)) else none) = _
  rw [e]
  rcases hb with ⟨h0, h1, h2, h3⟩ | ⟨h1, h2⟩
  · rw [if_pos ⟨h1, zi_nneg (by omega), by omega⟩, zMH_D h0.1, h3 i hi]
  · have hi' : i < zbl (q - 60) := by unfold zbl; rw [← h2]; exact hi
    rw [if_neg (by omega), if_pos ⟨h1, zi_nneg (by omega), hi'⟩, h2]
    rfl
end
section
variable {L : Nat} {xs : Nat → Int32} {h : zH} {m : zMm}
theorem s7 {p : Nat} {T : List Nat} (hs : zSt h p T) : zCl (zPr L xs) 7 [.ref p] (zMH h m) = some (.inl (some (.int 0)), zMH h m) := by
  obtain ⟨-, q, -, z⟩ := hs
  rw [en_7]
  exact (zEv_go lk_7_0 rfl).trans ((zEv_go lk_7_3 rfl).trans ((zEv_go lk_7_6 rfl).trans ((k_scod lk_7_7 z).trans ((zEv_go lk_7_10 rfl).trans (k_iret lk_7_14 (by decide))))))
theorem s8 {p : Nat} {T : List Nat} (hs : zSt h p T) : zCl (zPr L xs) 8 [.ref p] (zMH h m) = some (.inl (some (.int 1)), zMH h m) := by
  obtain ⟨-, q, -, z⟩ := hs
  rw [en_8]
  exact (zEv_go lk_8_0 rfl).trans ((zEv_go lk_8_3 rfl).trans ((zEv_go lk_8_6 rfl).trans ((k_scod lk_8_7 z).trans ((zEv_go lk_8_10 rfl).trans ((zEv_go lk_8_13 rfl).trans ((zEv_go lk_8_14 rfl).trans (k_iret lk_8_18 (by decide))))))))
theorem s3 {p : Nat} {T : List Nat} (hs : zSt h p T) : zCl (zPr L xs) 3 [.ref p] (zMH h m) = some (.inl (some (.int (nI T.length))), zMH h m) := by
  have h7 := s7 (L := L) (xs := xs) (m := m) hs
  have ht := zSt_t (m := m) hs
  obtain ⟨⟨-, hl⟩, q, hb, z⟩ := hs
  rw [en_3]
  have e : ∀ n, n ≤ 64 → nI n >>> ((0 : Int32) &&& 31) = nI n := by decide
  refine (zEv_go lk_3_0 rfl).trans ((k_sval lk_3_1 z).trans ((k_blen lk_3_4 hb).trans ((zEv_go lk_3_5 rfl).trans ((k_cv (a := p) lk_3_6 rfl rfl ht rfl rfl (rk_7 _) (by decide) h7).trans ((zEv_go lk_3_9 rfl).trans ?_)))))
  dsimp only
  rw [e _ hl]
  exact k_iret lk_3_10 rfl
theorem s17 {i n : Nat} {v : Value} (hn : n ≤ 64) (hi : i < n) : zCl (zPr L xs) 17 [.int (nI i), .int (nI n), .float 0] (zMH h m) = some (.inl (some (.int (nI i))), zMH h m) := by
  rw [en_17]
  refine (zEv_go lk_17_0 rfl).trans ((k_iflt_f lk_17_1 (by omega)).trans ?_)
  refine (zEv_go lk_17_4 rfl).trans ((zEv_go lk_17_5 rfl).trans ((k_iclt_t lk_17_6 (by omega) (by omega) hi).trans ((zEv_go lk_17_16 rfl).trans (k_iret lk_17_17 rfl))))
end
theorem zal22 {h : zH} {a : Nat} (ht : zT h a = 22) : 20 ≤ zT h a ∧ zT h a ≤ 24 := by omega
section
variable {P : zP} {r y pc : Nat} {ls : List Slot} {st : List Value} {h : zH} {m : zMm}
theorem k_xast_e {a t i : Nat} {x : Int32} {nr : Int32 → Int32} (ho : P.1 y pc = o_xast t nr) (ht : zT h a = t) (hi : i < zE h a) (hn : i ≤ 65536) (ha : 154 ≤ a) (hr : nr x = x) : zEv P r y pc ls (.int x :: .int (nI i) :: .ref a :: st) (zMH h m) = zEv P r y (pc + 1) ls st (zMH (zsI h 0 a i x) m) := by
  have e := k_xast_d (P := P) (r := r) (y := y) (pc := pc) (ls := ls) (st := st) (m := m) (x := x) ho ht hi hn ha
  rw [hr] at e
  exact e
theorem k_kref {k t n : Nat} (ho : P.1 y pc = o_kref k t n) (hx : zFx h) (hk : k < 100) (ht : zcT k = t) : zEv P r y pc ls st (zMH h m) = zEv P r y (pc + n) ls (.ref k :: st) (zMH h m) := zEv_go ho (if_pos (show zT h k = t by rw [hx.2.2.2 k hk]; exact ht))
theorem zT_vb (hx : zFx h) {a : Nat} (ha : a < 13) : zT h a = 40 := by
  rw [hx.2.2.2 a (by omega)]
  unfold zcT
  rw [if_pos ha]
theorem k_vlen (ho : P.1 y pc = o_vlen) (hx : zFx h) : zEv P r y pc ls (.ref 13 :: st) (zMH h m) = zEv P r y (pc + 1) ls (.int (nI 13) :: st) (zMH h m) := zEv_go ho (if_pos (show zT h 13 = 43 by rw [hx.2.2.2 13 (by decide)]; decide))
theorem k_vald {i : Nat} (ho : P.1 y pc = o_vald) (hx : zFx h) (hi : i < 13) : zEv P r y pc ls (.int (nI i) :: .ref 13 :: st) (zMH h m) = zEv P r y (pc + 1) ls (.ref i :: st) (zMH h m) := by
  have e : (nI i).toNatClampNeg = i := zi_clamp (by omega)
  refine zEv_go ho ?_
  show (if zT h 13 = 43 ∧ ¬ nI i < 0 ∧ (nI i).toNatClampNeg < 13 ∧ zT h (nI i).toNatClampNeg = 40 then some (Sum.inl (pc + 1, ls, .ref (nI i).toNatClampNeg :: st, zMH h m)) else none) = _
  rw [e, if_pos ⟨by rw [hx.2.2.2 13 (by decide)]; decide, zi_nneg (by omega), hi, zT_vb hx hi⟩]
theorem k_gfW {a : Nat} (ho : P.1 y pc = o_gfW) (hx : zFx h) (ha : a < 13) : zEv P r y pc ls (.ref a :: st) (zMH h m) = zEv P r y (pc + 3) ls (.ref (40 + a) :: st) (zMH h m) := by
  refine zEv_go ho (if_pos ⟨zT_vb hx ha, ?_⟩)
  show zT h (40 + a) = 41
  rw [hx.2.2.2 _ (by omega)]
  have : ∀ a, a < 13 → zcT (40 + a) = 41 := by decide
  exact this a ha
theorem k_ord {a : Nat} (ho : P.1 y pc = o_ord) (hx : zFx h) (ha : a < 13) (hst : Nat.ble st.length 4 = true := by rfl) : zEv P r y pc ls (.ref a :: st) (zMH h m) = zEv P r y (pc + 3) ls (.int (nI a) :: st) (zMH h m) := by
  refine zEv_go ho ?_
  unfold o_ord
  dsimp only
  rw [hst]
  dsimp only
  rw [if_pos (show zT (zMH h m) a = 40 from zT_vb hx ha)]
theorem k_mald {i v : Nat} (ho : P.1 y pc = o_mald) (hx : zFx h) (hi : i < 13) (hv : zSw.getD i 0 = nI v) : zEv P r y pc ls (.int (nI i) :: .ref 14 :: st) (zMH h m) = zEv P r y (pc + 1) ls (.int (nI v) :: st) (zMH h m) := by
  have e : (nI i).toNatClampNeg = i := zi_clamp (by omega)
  refine zEv_go ho ?_
  show (if zT h 14 = 44 ∧ ¬ nI i < 0 ∧ (nI i).toNatClampNeg < 13 then some (Sum.inl (pc + 1, ls, .int (zSw.getD (nI i).toNatClampNeg 0) :: st, zMH h m)) else none) = _
  rw [e, if_pos ⟨by rw [hx.2.2.2 14 (by decide)]; decide, zi_nneg (by omega), hi⟩, hv]
theorem k_gfK {a : Nat} {f : Nat → Int32} (ho : P.1 y pc = o_gfK 40 f) (hx : zFx h) (ha : a < 13) : zEv P r y pc ls (.ref a :: st) (zMH h m) = zEv P r y (pc + 3) ls (.int (f a) :: st) (zMH h m) := zEv_go ho (if_pos (show zT h a = 40 from zT_vb hx ha))
theorem k_svalk {k : Nat} (ho : P.1 y pc = o_sval) (hx : zFx h) (hk : 20 ≤ k ∧ k < 54) : zEv P r y pc ls (.ref k :: st) (zMH h m) = zEv P r y (pc + 3) ls (.ref (40 + k) :: st) (zMH h m) := by
  have t1 : ∀ k, k < 34 → zcT (20 + k) = 41 ∧ zcT (60 + k) = 42 := by decide
  obtain ⟨j, hj⟩ : ∃ j, k = 20 + j := ⟨k - 20, by omega⟩
  have z := t1 j (by omega)
  exact k_sval ho (Or.inr ⟨by rw [hx.2.2.2 k (by omega), hj]; exact z.1, by rw [hx.2.2.2 _ (by omega), show 40 + k = 60 + j by omega]; exact z.2, rfl, hk.2⟩)
theorem k_scodk {k : Nat} (ho : P.1 y pc = o_scod) (hx : zFx h) (hk : 20 ≤ k ∧ k < 54) : zEv P r y pc ls (.ref k :: st) (zMH h m) = zEv P r y (pc + 3) ls (.int (nI 0) :: st) (zMH h m) := by
  have t1 : ∀ k, k < 34 → zcT (20 + k) = 41 ∧ zcT (60 + k) = 42 := by decide
  obtain ⟨j, hj⟩ : ∃ j, k = 20 + j := ⟨k - 20, by omega⟩
  have z := t1 j (by omega)
  exact k_scod (q := 40 + k) ho (Or.inr ⟨by rw [hx.2.2.2 k (by omega), hj]; exact z.1, by rw [hx.2.2.2 _ (by omega), show 40 + k = 60 + j by omega]; exact z.2, rfl, hk.2⟩)
end
section
variable {P : zP} {r y pc : Nat} {ls : List Slot} {st : List Value} {H : zH}
theorem k_max {a b : Nat} (ho : P.1 y pc = o_mx (fun x y => if x < y then y else x)) (ha : a < 2147483648) (hb : b < 2147483648) (hst : Nat.ble st.length 4 = true := by rfl) : zEv P r y pc ls (.int (nI b) :: .int (nI a) :: st) H = zEv P r y (pc + 3) ls (.int (nI (if a < b then b else a)) :: st) H := by
  refine zEv_go ho ?_
  unfold o_mx
  dsimp only
  rw [hst]
  dsimp only
  by_cases q : a < b
  · rw [if_pos q, if_pos ((zi_lt ha hb).2 q)]
  · rw [if_neg q, if_neg (fun z => q ((zi_lt ha hb).1 z))]
theorem k_min {a b : Nat} (ho : P.1 y pc = o_mx (fun x y => if y < x then y else x)) (ha : a < 2147483648) (hb : b < 2147483648) (hst : Nat.ble st.length 4 = true := by rfl) : zEv P r y pc ls (.int (nI b) :: .int (nI a) :: st) H = zEv P r y (pc + 3) ls (.int (nI (if b < a then b else a)) :: st) H := by
  refine zEv_go ho ?_
  unfold o_mx
  dsimp only
  rw [hst]
  dsimp only
  by_cases q : b < a
  · rw [if_pos q, if_pos ((zi_lt hb ha).2 q)]
  · rw [if_neg q, if_neg (fun z => q ((zi_lt hb ha).1 z))]
end
