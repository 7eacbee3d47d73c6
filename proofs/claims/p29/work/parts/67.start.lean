/-! THE CLAIM OUT OF ONE WALK OF THE LAW'S BODY. Your part is whole_start (and what it stands on); all else here is the same for every law, but numbers. -/
def R_law : String := "ShelfSpinesLaw"
def lw_P (b : Addr) (xs : List Int32) (args : Array Value) (s : State) : Prop := args = #[.ref b] ∧ s.IntsAt b xs ∧ xs.length ≤ 260 ∧ (Jvm.Cond.and given_1 narrow_1).before args s = true
/-- what a walk over the start with the record d0 says of its end, said of the start itself -/
theorem lw_closed {s t : State} {o : Outcome} {d0 : Drawn} {L : List Loc} {k n : Nat} (hd0 : s.drawn.sameBut d0 lw_cs) (hv : ∃ v, o = .returned v) (hW : (s.setDrawn d0).WarmedH t.vm) (hs : (s.setDrawn d0).sameButNew ({ t with vm := s.vm } : State) L k n) : State.butDraws s t lw_cs (fun t1 => Framed s o t1 L k n) := by
  have h2 : t.drawn = d0 := congrArg State.drawn hs.1
  refine ⟨⟨hv, hW, State.sameButNew.setDrawn hs s.drawn⟩, ?_, by decide⟩
  rw [h2]
  exact hd0
def lw_Q (_ : Array Value) (s : State) (o : Outcome) (t : State) : Prop := o = .returned (some (.int 1)) ∧ State.butDraws s t lw_cs (fun t1 => Framed s o t1 [] 600000 7302250)
def lw_Z (below : List Frame) (a : Array Value) (s : State) : State → Prop := fun t => ∃ o, t.status = .running ∧ Ended t below o ∧ lw_Q a s o t
/-- the law's own end, with 1 on the stack, nothing written that was there before, its room as the claim has it; d0: the record of draws at this point (at the entry s.drawn: begin with 'refine W.base ?_' and 'have hd0 := Drawn.sameBut.refl s.drawn lw_cs') -/
theorem lw_ret {p : Program} {l : Launch} {e : Env} {s : State} {m : MethodId} {below : List Frame} {meth : Method} {c : Code} {b : Nat} {d0 : Drawn} (hd0 : s.drawn.sameBut d0 lw_cs) (hx : p.tables.exec = Jvm.exec) (hb : c.code = code) (hr : meth.sig.returnType = ret) (hlocks : meth.locks = false) {pc : Nat} {H : Heap} {ls : Array Slot} (hdg : decode code pc = .ok (.ireturn, 1)) : W p l e room_1 (s.setDrawn d0) m #[Value.ref b] below meth c H [] 600000 7302250 (lw_Z below #[Value.ref b] s) (F0 m pc ls [.int 1]) := by
  intro T hT X
  obtain ⟨fs, hret, hrun, hended, hW, hframe⟩ := X.leave (v := some (.int 1)) (hlocks := hlocks) (fun h => by rw [hr] at h; cases h)
  have hmeth' : T.vm.method? m = some meth := X.method'
  refine ⟨T.setFrames fs, ?_, .returned (some (.int 1)), hrun, hended, rfl, lw_closed hd0 ⟨_, rfl⟩ hW hframe⟩
  jvm_step X.here [X.here.top, hx, hb, hdg, hmeth', hr, ret, narrow_b1]
  (try refine ⟨rfl, ?_⟩); (try refine ⟨rfl, ?_⟩)
  first | (intro acts; rw [hret _ acts rfl rfl rfl]) | rw [hret _ _ rfl rfl rfl]
  exact Steps.refl _
/-- what holds at the law's entry: the machine, the code, the tables' words (any of lw_tbl by 'hts w (by decide +kernel)'), the script of L ints xs at the cell b, what the Statement gives of the start (any of its parts by flat_of_before) -/
def lw_At (p : Program) (s : State) (m : MethodId) (meth : Method) (c : Code) (b L : Nat) (xs : Nat → Int32) : Prop :=
  p.tables.exec = Jvm.exec ∧ c.code = code ∧ meth.sig.returnType = ret ∧ c.maxLocals = 5 ∧ s.vm.findClass R_law = some m.cls ∧ (∀ w ∈ lw_tbl, w.before #[Value.ref b] s = true) ∧ va_X b L xs s s.heap ∧ b < s.heap.size ∧ meth.locks = false ∧ (Jvm.Cond.and given_1 narrow_1).before #[Value.ref b] s = true
/-! the law's walk: the pure machine's run, done by the machine -/
theorem inst_ok : ∀ q ∈ vwCl, Cond.instantiable q.1 q.2.2 ∈ lw_tbl := by decide +kernel
theorem arrI_in : Cond.arrayClass .int ∈ lw_tbl := by decide +kernel
theorem arrQ_in : Cond.arrayOver (.object "ShelfSpines$Shelf") ∈ lw_tbl := by decide +kernel
theorem K0_len : K0.length ≤ 600000 := by decide +kernel
theorem K0_hz : (K0.map kz).sum ≤ 7302250 := by decide +kernel
theorem gW_of {s : State} {b : Nat} (hts : ∀ w ∈ lw_tbl, w.before #[Value.ref b] s = true) : ∀ w ∈ gW, w.before #[Value.ref b] s = true := fun w hw => hts w (List.mem_filter.mp hw).1
theorem pNt_of {s : State} {b : Nat} (hts : ∀ w ∈ lw_tbl, w.before #[Value.ref b] s = true) : ∀ w ∈ pNt, va_Nw w s := by
  intro w hw
  have h1 := (List.mem_filter.mp hw).1
  rcases pNt_kind (List.mem_filter.mp hw).2 with ⟨_, _, _, _, _, _, rfl⟩ | ⟨_, rfl⟩
  · exact va_Nw.of rfl (hts _ h1)
  · exact va_AO.of (hts _ h1)
theorem law_known {s : State} {b : Nat} (hts : ∀ w ∈ lw_tbl, w.before #[Value.ref b] s = true) : ∃ (D : va_G) (cI cQ : ClassId), va_K D vwCl [(cI, .int), (cQ, .object "ShelfSpines$Shelf")] s := by
  have h : ∀ k : Nat, ∃ (c : ClassId) (i : Nat → Nat), ∀ q : vw_C, vwCl[k]? = some q → u_Kn s q.1 q.2.1 q.2.2 c i := by
    intro k
    cases hq : vwCl[k]? with
    | none => exact ⟨0, fun _ => 0, fun q h => by cases h⟩
    | some q =>
      obtain ⟨c, i, h⟩ := u_known (C := q.1) (T := q.2.1) (N := q.2.2) (n := q.2.2) (gW_of hts) (cls_ok k q hq).1 (hts _ (inst_ok q (List.mem_of_getElem? hq)))
      exact ⟨c, i, fun q' h' => by cases h'; exact h⟩
  obtain ⟨c1, k1, p1, f1, f2, f3⟩ := Cond.arrayClass_spec (hts _ arrI_in)
  obtain ⟨p2, c2, k2, g1, g2, g3, g4, g5⟩ := Cond.arrayOver_spec (hts _ arrQ_in)
  refine ⟨(fun k => (h k).choose, fun k => (h k).choose_spec.choose), c1, c2, fun k q hq => (h k).choose_spec.choose_spec q hq, ?_⟩
  intro k q hq
  match k, hq with
  | 0, hq =>
    cases hq
    exact ⟨fun N z => ⟨(fun k h => by cases h), k1, f2, p1, f3⟩, f1⟩
  | 1, hq =>
    cases hq
    exact ⟨fun N z => ⟨(fun k h => by cases h), k2, g3, p2, g4⟩, k2, p2, g3, g4, g1, g5⟩
  | k + 2, hq => cases hq
/-- from the entry, for every script of at most 260 ints, the law comes to its end with true -/
theorem whole_start {p : Program} {e : Env} {s : State} {m : MethodId} {below : List Frame} {meth : Method} {c : Code} (l : Launch) (hflags : l.flags = flags0) (hnm : meth.name = yL_law.name) {b L : Nat} {xs : Nat → Int32} (hL : L ≤ 260) (C0 : lw_At p s m meth c b L xs) : W p l e room_1 s m #[Value.ref b] below meth c s.heap [] 0 0 (lw_Z below #[Value.ref b] s) (entryFrame m ([Value.ref b] : List Value).toArray 5) := by
  obtain ⟨hx, hb, hr, hml, hown, hts, hX, hbl, hlocks, hgv⟩ := C0
  obtain ⟨h', e1, w'⟩ := lw_all (L := L) (xs := xs) hL
  obtain ⟨n, hn⟩ := run_to (show run pMs (some (L, xs)) 121 0 [some .null] [] hE = some (some (.int 1), h') from e1)
  obtain ⟨D, cI, cQ, hK⟩ := law_known hts
  have hlen : h'.1.length ≤ 600000 := by rw [w'.1]; exact K0_len
  have hz' : hz h' ≤ 7302250 := by unfold hz; rw [w'.1]; exact K0_hz
  have hd0 : s.drawn.sameBut s.drawn lw_cs := Drawn.sameBut.refl s.drawn lw_cs
  have hl := lv_entry ([.ref b]) (n := 5) (Nat.le_of_ble_eq_true rfl)
  rw [lg_entry_eq]
  generalize (lg_sl ([.ref b]) ++ List.replicate (5 - (lg_sl ([.ref b])).length) Slot.unset).toArray = ls at hl ⊢
  refine fr_all pMs_ok n (some (L, xs)) 121 M_121 0 [some .null] [] hE (some (.int 1), h') rfl hn p e room_1 s m #[Value.ref b] below meth c (lw_Z below #[Value.ref b] s) s.heap.size b D cI cQ s.heap s.heap 0 0 ls [] 0 0 ?_ ?_ ?_ ?_ ?_ ?_
  · exact ⟨hx, hb, hml, hown, gW_of hts, pNt_of hts, hnm, by decide, by decide, hK, Nat.le_refl _, hr.symm, rfl, hlocks⟩
  · intro q hq
    cases hq
    exact ⟨hX, hbl, Nat.not_le.mpr hbl⟩
  · intro pc i LS H locs cells slots hd hi hlo hP hS hc hz1
    have hc : cells + 0 = h'.1.length := hc
    have hz1 : slots + 0 = hz h' := hz1
    rcases hi with ⟨rfl, -⟩ | ⟨-, h, -⟩ | ⟨-, k, h, -⟩ | ⟨-, x, h, -⟩ | ⟨-, x, h, -⟩
    · refine va_forget (fun q hq => hS.2.2 q hq) ?_
      refine W.widen (k := 600000) (n := 7302250) (by omega) (by omega) ?_
      exact W.base (lw_ret hd0 hx hb hr hlocks hd)
    · cases h
    · cases h
    · cases h
    · cases h
  · have hP0 : va_P D vwCl (pW s.heap.size cI cQ hE) s.heap := by
      intro k q hk
      have hk : ([] : va_W)[k]? = some q := hk
      rw [List.getElem?_nil] at hk
      cases hk
    refine ⟨Nat.le_refl _, hP0, va_S.rf, ⟨hl.1, hl.2.1, fun i v hi => ?_⟩, rfl, rfl⟩
    match i, hi with
    | 0, hi =>
      cases hi
      exact hl.2.2 (0, .ref b) List.mem_cons_self
    | i + 1, hi => cases hi
  · exact Nat.le_trans hlen (Nat.le_refl _)
  · exact Nat.le_trans hz' (Nat.le_refl _)
