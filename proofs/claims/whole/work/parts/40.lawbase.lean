/-! THE CLAIM OUT OF ONE WALK OF THE LAW'S BODY. Your part is whole_start (and what it stands on); all else here is the same for every law, but numbers. -/
def R_law : String := "FogKeptLaw"
def lw_P (b : Addr) (xs : List Int32) (args : Array Value) (s : State) : Prop := args = #[.ref b] ∧ s.IntsAt b xs ∧ xs.length ≤ 3072 ∧ (Jvm.Cond.and given_1 narrow_1).before args s = true
def lw_Q (_ : Array Value) (s : State) (o : Outcome) (t : State) : Prop := o = .returned (some (.int 1)) ∧ Framed s o t [] 600000 7302250
def lw_Z (below : List Frame) (a : Array Value) (s : State) : State → Prop := fun t => ∃ o, t.status = .running ∧ Ended t below o ∧ lw_Q a s o t
/-- the law's own end, with 1 on the stack, nothing written that was there before, its room as the claim has it -/
theorem lw_ret {p : Program} {l : Launch} {e : Env} {s : State} {m : MethodId} {below : List Frame} {meth : Method} {c : Code} {b : Nat} (hx : p.tables.exec = Jvm.exec) (hb : c.code = code) (hr : meth.sig.returnType = ret) (hlocks : meth.locks = false) {pc : Nat} {H : Heap} {ls : Array Slot} (hdg : decode code pc = .ok (.ireturn, 1)) : W p l e room_1 s m #[Value.ref b] below meth c H [] 600000 7302250 (lw_Z below #[Value.ref b] s) (F0 m pc ls [.int 1]) := by
  intro T hT X
  obtain ⟨fs, hret, hrun, hended, hW, hframe⟩ := X.leave (v := some (.int 1)) (hlocks := hlocks) (fun h => by rw [hr] at h; cases h)
  have hmeth' : T.vm.method? m = some meth := X.method'
  refine ⟨T.setFrames fs, ?_, .returned (some (.int 1)), hrun, hended, rfl, ⟨_, rfl⟩, hW, hframe⟩
  jvm_step X.here [X.here.top, hx, hb, hdg, hmeth', hr, ret, narrow_b1]
  (try refine ⟨rfl, ?_⟩); (try refine ⟨rfl, ?_⟩)
  first | (intro acts; rw [hret _ acts rfl rfl rfl]) | rw [hret _ _ rfl rfl rfl]
  exact Steps.refl _
/-- what holds at the law's entry: the machine, the code, the tables' words (any of lw_tbl by 'hts w (by decide +kernel)'), the script of L ints xs at the cell b, what the Statement gives of the start (any of its parts by flat_of_before) -/
def lw_At (p : Program) (s : State) (m : MethodId) (meth : Method) (c : Code) (b L : Nat) (xs : Nat → Int32) : Prop :=
  p.tables.exec = Jvm.exec ∧ c.code = code ∧ meth.sig.returnType = ret ∧ c.maxLocals = 4 ∧ s.vm.findClass R_law = some m.cls ∧ (∀ w ∈ lw_tbl, w.before #[Value.ref b] s = true) ∧ va_X b L xs s s.heap ∧ b < s.heap.size ∧ meth.locks = false ∧ (Jvm.Cond.and given_1 narrow_1).before #[Value.ref b] s = true

/-! ===== the law's own rows: two worlds side by side ===== -/
abbrev lwA (s : State) : Nat → Prop := fun q => s.heap.size ≤ q
abbrev LwC (p : Program) (s : State) (m : MethodId) (c : Code) (b L : Nat) (xs : Nat → Int32) (G1 G2 : Gd) (ks : Ks) : Prop :=
  CallFix p m c code 4 s #[Value.ref b] TG RL ∧ va_X b L xs s s.heap ∧ b < s.heap.size ∧ va_K G1.1 vwCl (tyL G1) s ∧ va_K G2.1 vwCl (tyL G2) s ∧ Inj 37 G1.2.2 ∧ Inj 11 G2.2.2 ∧ XC G1 ks s ∧ (∀ c, c < 37 → s.heap.size ≤ G1.2.2 c) ∧ (∀ c, c < 11 → s.heap.size ≤ G2.2.2 c) ∧ (∀ i j, i < 37 → j < 11 → G1.2.2 i ≠ G2.2.2 j)
abbrev LwD (s : State) (G1 G2 : Gd) (VC VM : VV) (H : Heap) (locs : List Loc) : Prop := va_P G1.1 vwCl (gW 37 G1.2.2 (cC G1 VC)) H ∧ va_P G2.1 vwCl (gW 11 G2.2.2 (cM G2 VM)) H ∧ va_S (lwA s) s.heap H locs
theorem gW_keep {n n' : Nat} {G : Gd} {ad' : Nat → Nat} {cell : Nat → va_E} {H H1 : Heap} (hP : va_P G.1 vwCl (gW n G.2.2 cell) H) (hk : ∀ q : Nat, q < H.size → ¬ inA n' ad' q → H1[q]? = H[q]?) (hd : ∀ i j, i < n → j < n' → G.2.2 i ≠ ad' j) : va_P G.1 vwCl (gW n G.2.2 cell) H1 := by
  refine hP.kept (fun k q hq => ?_)
  have hl := (hP k q hq).lt
  obtain ⟨h1, rfl⟩ := gW_some hq
  exact hk _ hl (fun ⟨j, hj, e⟩ => hd k j h1 hj e)
section LR
variable {p : Program} {l : Launch} {e : Env} {R : Room} {s : State} {m : MethodId} {args : Array Value} {below : List Frame} {meth : Method} {c : Code} {H : Heap} {locs : List Loc} {Q : State → Prop}
variable {cc : ByteArray} {pc nL : Nat} {ls : Array Slot} {rest : List Value} {n : Nat} {G : Gd} {X : State → Prop} {cell cell' : Nat → va_E} {own : String} {cells slots : Nat}
variable {y : MethodName} {bytes : ByteArray} {maxL idx np fr lo : Nat} {ret : Option FieldType} {As : List Value} {st : List Value} {c0 ci N : Nat} {fs : List Value} {T : u_T}
theorem lrunV {Qc : Array Value → State → Outcome → State → Prop} (S : CallFix p m c cc nL s args TG own) (hK : va_K G.1 vwCl (tyL G) s) (hX : XS n G X) (hXs : X s) (hP : va_P G.1 vwCl (gW n G.2.2 cell) H) (hS : va_S (lwA s) s.heap H locs) (hls : ls.size = nL) (K : CWv own idx y bytes maxL ret np) (hc : c0 < n) (he : cell c0 = .inr (ci, fs)) (hcl : vwCl[ci]? = some (y.cls, T, N))
    (hM : Met l y (wsM y bytes maxL ret) (rmF fr lo) (va_Pc (.ref (G.2.2 c0) :: As) (PPs n G X cell)) Qc 0 0 (inA n G.2.2)) (hR : fr + 1 ≤ R.frames ∧ 8 + (maxL + 11) + lo ≤ R.locals) (hn : As.length = np) (hst : st = As.reverse ++ .ref (G.2.2 c0) :: rest) (hr8 : (rest.map fun v => v.category).sum ≤ 8) (hdg : decode cc pc = .ok (.invokevirtual idx, 3)) (hf : cells + 0 ≤ R.cells ∧ slots + 0 ≤ R.slots) :
    va_Run p l e R s m args below meth c H locs cells slots 0 0 (F0 m pc ls st) rest (Qc (Value.ref (G.2.2 c0) :: As).toArray) (inA n G.2.2) := by
  have ht := S.2.2.2.2
  have cw : CallW R s args own y.cls idx y bytes maxL ret (wsM y bytes maxL ret) (rmF fr lo) 0 0 np := ⟨callB_of np ht (wsM_good K.2.2.2.2.1) rfl rfl rfl (ht _ K.2.2.2.1) (ht _ K.1) K.2.2.2.2.2 hR, ht _ K.2.1, ht _ K.2.2.1⟩
  refine va_runV S hM cw ⟨PPs_blind hX, ?_, fun U hU hW => ⟨rfl, by rw [hU]; exact hP, va_K.moved hW.alike hK, hX.2 s U hXs hW (fun q h1 _ => by rw [hU]; exact hS.2.1 q h1 (Nat.not_le.mpr h1))⟩⟩ rfl hn hls hst (lv_room hr8) hdg hf
  obtain ⟨cl1, a1, a2, a3⟩ := va_recv hK hP hcl ((gW_at hc).trans (by rw [he]))
  exact ⟨cl1, a1, a2, a3⟩
theorem lcI {r0 : Int32} (S : CallFix p m c cc nL s args TG own) (hK : va_K G.1 vwCl (tyL G) s) (hX : XS n G X) (hXs : X s) (hge : ∀ c, c < n → s.heap.size ≤ G.2.2 c) (hP : va_P G.1 vwCl (gW n G.2.2 cell) H) (hS : va_S (lwA s) s.heap H locs) (hls : ls.size = nL) (K : CWv own idx y bytes maxL (some .int) np) (hc : c0 < n) (he : cell c0 = .inr (ci, fs)) (hcl : vwCl[ci]? = some (y.cls, T, N))
    (hM : MI l n G X y bytes maxL fr lo (.ref (G.2.2 c0) :: As) cell cell' r0) (hR : fr + 1 ≤ R.frames ∧ 8 + (maxL + 11) + lo ≤ R.locals) (hn : As.length = np) (hst : st = As.reverse ++ .ref (G.2.2 c0) :: rest) (hr8 : (rest.map fun v => v.category).sum ≤ 8) (hdg : decode cc pc = .ok (.invokevirtual idx, 3)) (hf : cells + 0 ≤ R.cells ∧ slots + 0 ≤ R.slots)
    (kk : ∀ (H1 : Heap) (locs1 : List Loc), va_P G.1 vwCl (gW n G.2.2 cell') H1 → (∀ q : Nat, q < H.size → ¬ inA n G.2.2 q → H1[q]? = H[q]?) → va_S (lwA s) s.heap H1 locs1 → W p l e R s m args below meth c H1 locs1 cells slots Q (F0 m (pc + 3) ls (.int r0 :: rest))) : W p l e R s m args below meth c H locs cells slots Q (F0 m pc ls st) := by
  refine va_calli (lrunV S hK hX hXs hP hS hls K hc he hcl hM hR hn hst hr8 hdg hf) hS (fun q _ h => ?_) (fun q h => ?_) (fun r _ t H1 locs1 ht _ hw hB _ hk1 hS => ?_)
  · obtain ⟨k, hk, rfl⟩ := h; exact hge k hk
  · obtain ⟨k, hk, rfl⟩ := h; exact hge k hk
  · subst hw
    have hB : PPt n G cell' t := hB
    exact kk H1 locs1 (by rw [← ht]; exact hB) hk1 hS
theorem lcJ {r0 : Int64} (S : CallFix p m c cc nL s args TG own) (hK : va_K G.1 vwCl (tyL G) s) (hX : XS n G X) (hXs : X s) (hge : ∀ c, c < n → s.heap.size ≤ G.2.2 c) (hP : va_P G.1 vwCl (gW n G.2.2 cell) H) (hS : va_S (lwA s) s.heap H locs) (hls : ls.size = nL) (K : CWv own idx y bytes maxL (some .long) np) (hc : c0 < n) (he : cell c0 = .inr (ci, fs)) (hcl : vwCl[ci]? = some (y.cls, T, N))
    (hM : MJ l n G X y bytes maxL fr lo (.ref (G.2.2 c0) :: As) cell cell' r0) (hR : fr + 1 ≤ R.frames ∧ 8 + (maxL + 11) + lo ≤ R.locals) (hn : As.length = np) (hst : st = As.reverse ++ .ref (G.2.2 c0) :: rest) (hr8 : (rest.map fun v => v.category).sum ≤ 8) (hdg : decode cc pc = .ok (.invokevirtual idx, 3)) (hf : cells + 0 ≤ R.cells ∧ slots + 0 ≤ R.slots)
    (kk : ∀ (H1 : Heap) (locs1 : List Loc), va_P G.1 vwCl (gW n G.2.2 cell') H1 → (∀ q : Nat, q < H.size → ¬ inA n G.2.2 q → H1[q]? = H[q]?) → va_S (lwA s) s.heap H1 locs1 → W p l e R s m args below meth c H1 locs1 cells slots Q (F0 m (pc + 3) ls (.long r0 :: rest))) : W p l e R s m args below meth c H locs cells slots Q (F0 m pc ls st) := by
  refine va_calll (lrunV S hK hX hXs hP hS hls K hc he hcl hM hR hn hst hr8 hdg hf) hS (fun q _ h => ?_) (fun q h => ?_) (fun r _ t H1 locs1 ht _ hw hB _ hk1 hS => ?_)
  · obtain ⟨k, hk, rfl⟩ := h; exact hge k hk
  · obtain ⟨k, hk, rfl⟩ := h; exact hge k hk
  · subst hw
    have hB : PPt n G cell' t := hB
    exact kk H1 locs1 (by rw [← ht]; exact hB) hk1 hS
end LR
theorem lcmp_self (x : Int64) : lg_cmp x x = 0 := by unfold lg_cmp; simp
