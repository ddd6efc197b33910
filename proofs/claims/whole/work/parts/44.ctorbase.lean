/-! ===== constructors: worlds as lists that grow ===== -/
abbrev PreC (G : Gd) (X : State → Prop) (ws0 : va_W) (sz : Nat) (U : State) : Prop := U.heap.size = sz ∧ va_P G.1 vwCl ws0 U.heap ∧ va_K G.1 vwCl (tyL G) U ∧ va_D (fun _ => True) ws0 ∧ X U
abbrev PostC (G : Gd) (ws0 : va_W) (sz : Nat) (wsF : (Nat → Nat) → va_W) := va_Qv (fun (_ : Nat → Nat) => True) (fun u t => va_P G.1 vwCl (wsF u) t.heap ∧ va_D (va_A ws0 sz) (wsF u)) (va_A ws0 sz)
def MC (l : Launch) (G : Gd) (X : State → Prop) (y : MethodName) (bytes : ByteArray) (maxL fr mc ms lo : Nat) (h0 : Nat) (e0 : va_E) (wsF : (Nat → Nat) → va_W) : Prop := ∀ sz : Nat, Met l y (wsM y bytes maxL none) { frames := fr, cells := mc, slots := ms, locals := lo } (va_Pc [.ref h0] (PreC G X [(h0, e0)] sz)) (PostC G [(h0, e0)] sz wsF) mc ms (va_A [(h0, e0)] sz)
/-- a predicate that holds of a state's tables -/
def XV (X : State → Prop) : Prop := (∀ (U : State) (g : JFrame) (mk : MethodId) (a : Array Value), X U → X (U.calling g mk a)) ∧ ∀ s U : State, X s → s.WarmedH U.vm → X U
theorem ctor_of {l : Launch} {G : Gd} {X : State → Prop} {y : MethodName} {bytes : ByteArray} {maxL fr mc ms lo h0 : Nat} {e0 : va_E} {wsF : (Nat → Nat) → va_W} {own : String} (hy : plainName y.cls = true) (ho : y.cls = own) (hn : y.name = "<init>") (hlen : 1 ≤ maxL)
    (body : ∀ p e s m below meth c (A : Nat → Prop), CallFix p m c bytes maxL s #[Value.ref h0] TG own → va_K G.1 vwCl (tyL G) s → X s → meth.sig.returnType = none → meth.locks = false → meth.name = "<init>" → (∀ q : Nat, s.heap.size ≤ q → A q) → ∀ ls, lv_has ls maxL [(0, .ref h0)] → va_P G.1 vwCl [(h0, e0)] s.heap → va_D A [(h0, e0)] → va_S A s.heap s.heap [] →
      W p l e { frames := fr, cells := mc, slots := ms, locals := lo } s m #[Value.ref h0] below meth c s.heap [] 0 0 (MQ below (va_Qv (fun (_ : Nat → Nat) => True) (fun u t => va_P G.1 vwCl (wsF u) t.heap ∧ va_D A (wsF u)) A) #[Value.ref h0] s mc ms A) (F0 m 0 ls [])) : MC l G X y bytes maxL fr mc ms lo h0 e0 wsF := by
  intro sz
  refine Met.ofW (cc := bytes) (maxL := maxL) (ret := none) hy rfl ?_
  intro p e s m args below meth c s₁ B hml hv
  obtain ⟨rfl, hsz, hP, hK, hD0, hXs⟩ := hv
  have hts := atoms_spec (ws := wsM y bytes maxL none) B.pre
  have hown : s.vm.findClass own = some m.cls := by rw [← ho]; exact findClass_of_methodNamed B.named
  have hin : meth.name = "<init>" := by rw [← hn]; exact (name_of_methodNamed B.named B.method).1
  subst hsz
  have hD := hD0.self (sz := s.heap.size)
  have hl := lv_entry [.ref h0] (n := maxL) (by simpa [lg_sl, Value.category] using hlen)
  rw [lg_entry_eq]
  exact body p e s m below meth c _ ⟨B.exec, B.bytes, hml, hown, fun w h => hts w (List.mem_cons_of_mem _ h)⟩ hK hXs B.returns B.notSynchronized hin (fun q h => Or.inr h) _ hl hP hD va_S.rf
theorem join_last {A : Nat → Prop} {D : va_G} {cl : List vw_C} {wr w1 : va_W} {b : Nat} {e : va_E} {H H1 : Heap} (hP : va_P D cl (wr ++ [(b, e)]) H) (hD : va_D A (wr ++ [(b, e)])) (hk : ∀ q : Nat, q < H.size → ¬ va_A [(b, e)] H.size q → H1[q]? = H[q]?) (hF : ∀ q, va_A [(b, e)] H.size q → A q) (hP1 : va_P D cl w1 H1) (hD1 : va_D (va_A [(b, e)] H.size) w1) : va_P D cl (wr ++ w1) H1 ∧ va_D A (wr ++ w1) := by
  have atL : ∀ (k : Nat) (q : Nat × va_E), wr[k]? = some q → (wr ++ [(b, e)])[k]? = some q := fun k q h => by
    rw [List.getElem?_append_left (List.getElem?_eq_some_iff.mp h).1]; exact h
  have atB : (wr ++ [(b, e)])[wr.length]? = some (b, e) := by simp
  have apart : ∀ (k : Nat) (q : Nat × va_E), wr[k]? = some q → q.1 < H.size ∧ ¬ va_A [(b, e)] H.size q.1 := by
    intro k q hq
    have hl := (hP k q (atL k q hq)).lt
    refine ⟨hl, fun h => ?_⟩
    rcases h with ⟨k2, e2, h⟩ | h
    · have hk2 : k2 = 0 := by
        have := (List.getElem?_eq_some_iff.mp h).1
        simp at this
        exact this
      subst hk2
      have hb : q.1 = b := by
        simp at h
        exact h.1.symm
      have := hD.1 k wr.length q (b, e) (atL k q hq) atB hb
      have h2 := (List.getElem?_eq_some_iff.mp hq).1
      omega
    · omega
  refine ⟨va_P.app (fun k q hq => ?_) hP1, va_D.app ⟨fun i j x y hi hj hxy => hD.1 i j x y (atL i x hi) (atL j y hj) hxy, fun k q hq => hD.2 k q (atL k q hq)⟩ (hD1.weaken (fun k q _ h => hF q.1 h)) (fun i j x y hx hy hxy => ?_)⟩
  · obtain ⟨g1, g2⟩ := apart k q hq
    exact (hP k q (atL k q hq)).kept (hk q.1 g1 g2)
  · exact (apart i x hx).2 (by rw [hxy]; exact hD1.2 j y hy)
theorem free_last {A : Nat → Prop} {wr : va_W} {b : Nat} {e : va_E} {s : State} {H : Heap} {locs : List Loc} (hD : va_D A (wr ++ [(b, e)])) (hS : va_S A s.heap H locs) (hA : ∀ q : Nat, s.heap.size ≤ q → A q) : ∀ q, va_A [(b, e)] H.size q → A q := by
  intro q h
  rcases h with ⟨k2, e2, h⟩ | h
  · have hk2 : k2 = 0 := by
      have := (List.getElem?_eq_some_iff.mp h).1
      simp at this
      exact this
    subst hk2
    have hb : q = b := by
      simp at h
      exact h.1.symm
    rw [hb]
    exact hD.2 wr.length (b, e) (by simp)
  · exact hA q (Nat.le_trans hS.1 h)
theorem one_last {A : Nat → Prop} {D : va_G} {cl : List vw_C} {wr : va_W} {b : Nat} {e : va_E} {H : Heap} (hP : va_P D cl (wr ++ [(b, e)]) H) (hD : va_D A (wr ++ [(b, e)])) : va_P D cl [(b, e)] H ∧ va_D (fun _ => True) [(b, e)] := by
  refine ⟨fun k q hq => ?_, ⟨fun i j x y hi hj hxy => ?_, fun _ _ _ => trivial⟩⟩
  · have hk2 : k = 0 := by
      have := (List.getElem?_eq_some_iff.mp hq).1
      simp at this
      exact this
    subst hk2
    exact hP wr.length q (by simpa using hq)
  · have h1 := (List.getElem?_eq_some_iff.mp hi).1
    have h2 := (List.getElem?_eq_some_iff.mp hj).1
    simp at h1 h2
    omega
section CT
variable {p : Program} {l : Launch} {e : Env} {R : Room} {s : State} {m : MethodId} {args : Array Value} {below : List Frame} {meth : Method} {c : Code} {H : Heap} {locs : List Loc} {Q : State → Prop} {cells slots : Nat}
variable {cc : ByteArray} {pc nL : Nat} {ls : Array Slot} {rest : List Value} {G : Gd} {X : State → Prop} {own : String} {ws : va_W} {A : Nat → Prop} {H0 : Heap}
theorem rnewI (hexec : p.tables.exec = Jvm.exec) (hb : c.code = cc) (harr : (Cond.arrayClass .int).before args s = true) (hK : va_K G.1 vwCl (tyL G) s) (hP : va_P G.1 vwCl ws H) (hD : va_D A ws) (hS : va_S A H0 H locs) (hA : ∀ q, H0.size ≤ q → A q) {n : Int32} {N : Nat} (hn : ¬ n < 0) (hN : n.toNatClampNeg = N) (hbytes : N * componentBytes .int ≤ 536870912) (hcells : cells + 1 ≤ R.cells) (hslots : slots + N ≤ R.slots) (hdg : decode cc pc = .ok (.newarray .int, 2))
    (kk : ∀ (q : Nat) (H1 : Heap), va_P G.1 vwCl (ws ++ [(q, .inl (G.2.1.1, N, .inl (fun _ => 0)))]) H1 → va_D A (ws ++ [(q, .inl (G.2.1.1, N, .inl (fun _ => 0)))]) → va_S A H0 H1 locs → W p l e R s m args below meth c H1 locs (cells + 1) (slots + N) Q (F0 m (pc + 2) ls (.ref q :: rest))) : W p l e R s m args below meth c H locs cells slots Q (F0 m pc ls (.int n :: rest)) := by
  refine va_newa (atype := .int) (ty := .int) (a0 := (N, .inl (fun _ => 0))) hexec hb harr rfl hK hP hD hS hA (fun _ => rfl) hn hN hbytes hcells hslots hdg (fun q cA H1 hK1 hP1 hD1 hS1 => ?_)
  have e1 : cA = G.2.1.1 := Option.some.inj ((show s.vm.findClass _ = some cA from (hK1.2 3 _ rfl).2).symm.trans (show s.vm.findClass _ = some G.2.1.1 from (hK.2 0 _ rfl).2))
  subst e1
  exact kk q H1 hP1 hD1 hS1
theorem rnewJ (hexec : p.tables.exec = Jvm.exec) (hb : c.code = cc) (harr : (Cond.arrayClass .long).before args s = true) (hK : va_K G.1 vwCl (tyL G) s) (hP : va_P G.1 vwCl ws H) (hD : va_D A ws) (hS : va_S A H0 H locs) (hA : ∀ q, H0.size ≤ q → A q) {n : Int32} {N : Nat} (hn : ¬ n < 0) (hN : n.toNatClampNeg = N) (hbytes : N * componentBytes .long ≤ 536870912) (hcells : cells + 1 ≤ R.cells) (hslots : slots + N ≤ R.slots) (hdg : decode cc pc = .ok (.newarray .long, 2))
    (kk : ∀ (q : Nat) (H1 : Heap), va_P G.1 vwCl (ws ++ [(q, .inl (G.2.1.2.1, N, .inr (.inl (fun _ => 0))))]) H1 → va_D A (ws ++ [(q, .inl (G.2.1.2.1, N, .inr (.inl (fun _ => 0))))]) → va_S A H0 H1 locs → W p l e R s m args below meth c H1 locs (cells + 1) (slots + N) Q (F0 m (pc + 2) ls (.ref q :: rest))) : W p l e R s m args below meth c H locs cells slots Q (F0 m pc ls (.int n :: rest)) := by
  refine va_newa (atype := .long) (ty := .long) (a0 := (N, .inr (.inl (fun _ => 0)))) hexec hb harr rfl hK hP hD hS hA (fun _ => rfl) hn hN hbytes hcells hslots hdg (fun q cA H1 hK1 hP1 hD1 hS1 => ?_)
  have e1 : cA = G.2.1.2.1 := Option.some.inj ((show s.vm.findClass _ = some cA from (hK1.2 3 _ rfl).2).symm.trans (show s.vm.findClass _ = some G.2.1.2.1 from (hK.2 1 _ rfl).2))
  subst e1
  exact kk q H1 hP1 hD1 hS1
theorem rnewQ (hexec : p.tables.exec = Jvm.exec) (hb : c.code = cc) {index : Nat} (hown : s.vm.findClass own = some m.cls) (hclink : (Cond.classLink own index "FogKept$Sheet").before args s = true) (hover : va_AO "FogKept$Sheet" s) (hK : va_K G.1 vwCl (tyL G) s) (hP : va_P G.1 vwCl ws H) (hD : va_D A ws) (hS : va_S A H0 H locs) (hA : ∀ q, H0.size ≤ q → A q) {n : Int32} {N : Nat} (hn : ¬ n < 0) (hN : n.toNatClampNeg = N) (hbytes : N * 4 ≤ 536870912) (hcells : cells + 1 ≤ R.cells) (hslots : slots + N ≤ R.slots) (hdg : decode cc pc = .ok (.anewarray index, 3))
    (kk : ∀ (q : Nat) (H1 : Heap), va_P G.1 vwCl (ws ++ [(q, .inl (G.2.1.2.2, N, .inr (.inr (.inr (.inr (fun _ => none))))))]) H1 → va_D A (ws ++ [(q, .inl (G.2.1.2.2, N, .inr (.inr (.inr (.inr (fun _ => none))))))]) → va_S A H0 H1 locs → W p l e R s m args below meth c H1 locs (cells + 1) (slots + N) Q (F0 m (pc + 3) ls (.ref q :: rest))) : W p l e R s m args below meth c H locs cells slots Q (F0 m pc ls (.int n :: rest)) := by
  refine va_newq hexec hb hown hclink hover hK hP hD hS hA hn hN hbytes hcells hslots hdg (fun q cA H1 hK1 hP1 hD1 hS1 => ?_)
  have e1 : cA = G.2.1.2.2 := by
    obtain ⟨_, _, -, -, -, h1⟩ := (hK1.2 3 _ rfl).2
    obtain ⟨_, _, -, -, -, h2⟩ := (hK.2 2 _ rfl).2
    exact Option.some.inj (h1.symm.trans h2)
  subst e1
  exact kk q H1 hP1 hD1 hS1
/-- a constructor is called on the object made last -/
theorem rctor {y : MethodName} {bytes : ByteArray} {maxL fr mc ms lo idx : Nat} {host : String} {wr : va_W} {b : Nat} {e0 : va_E} {wsF : (Nat → Nat) → va_W} (S : CallFix p m c cc nL s args TG own) (hK : va_K G.1 vwCl (tyL G) s) (hP : va_P G.1 vwCl (wr ++ [(b, e0)]) H) (hD : va_D A (wr ++ [(b, e0)])) (hS : va_S A s.heap H locs) (hA : ∀ q : Nat, s.heap.size ≤ q → A q) (hls : ls.size = nL)
    (hM : MC l G (fun _ => True) y bytes maxL fr mc ms lo b e0 wsF) (hN : va_Nw (.methodLinkNest own idx y host) s) (hc : Cond.code y bytes maxL none ∈ TG) (hi : Cond.initialized y.cls ∈ TG) (hm : Cond.instanceMethod y ∈ TG) (hy : y.name = "<init>") (hdd : y.cls ≠ "java/lang/invoke/MethodHandle" ∧ y.cls ≠ "java/lang/invoke/VarHandle" ∧ (parseMethodDescriptor y.desc).map (fun d => d.parameters.length) = some 0) (hR : fr + 1 ≤ R.frames ∧ 8 + (maxL + 11) + lo ≤ R.locals) (hr8 : (rest.map fun v => v.category).sum ≤ 8) (hdg : decode cc pc = .ok (.invokespecial idx, 3)) (hf : cells + mc ≤ R.cells ∧ slots + ms ≤ R.slots)
    (kk : ∀ (u : Nat → Nat) (H1 : Heap) (locs1 : List Loc), va_P G.1 vwCl (wr ++ wsF u) H1 → va_D A (wr ++ wsF u) → va_S A s.heap H1 locs1 → W p l e R s m args below meth c H1 locs1 (cells + mc) (slots + ms) Q (F0 m (pc + 3) ls rest)) : W p l e R s m args below meth c H locs cells slots Q (F0 m pc ls (.ref b :: rest)) := by
  have ht := S.2.2.2.2
  obtain ⟨hP1, hD1⟩ := one_last hP hD
  have hF := free_last hD hS hA
  refine va_callv (va_runIN (As := []) (rest := rest) S (hM H.size) ⟨va_cnB 0 ht (wsM_good hc) rfl rfl rfl hN (ht _ hi) hdd hR, hy, ht _ hm⟩ ⟨fun a U g mk q => ?_, fun U hU hW => ⟨rfl, by rw [hU], by rw [hU]; exact hP1, va_K.moved hW.alike hK, hD1, trivial⟩⟩ rfl rfl hls rfl (lv_room hr8) hdg hf) hS (fun q _ h => hF q h) hF (fun u t H1 locs1 ht1 _ _ hB _ hk1 hS1 => ?_)
  · obtain ⟨q0, q1, qP, qK, qD, qX⟩ := q
    exact ⟨q0, q1, qP, va_K.moved (u := U) (U := U.calling g mk a) (Vm.Alike.refl U.vm) qK, qD, trivial⟩
  · obtain ⟨hB1, hB2⟩ := hB
    rw [ht1] at hB1
    obtain ⟨h1, h2⟩ := join_last hP hD hk1 hF hB1 hB2
    exact kk u H1 locs1 h1 h2 hS1
end CT
