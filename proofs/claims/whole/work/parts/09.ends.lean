theorem cMa1 {G : Gd} {V : VV} : cM G V 1 = .inl (G.2.1.1, 60, .inl (V.1 1)) := rfl
theorem cMa2 {G : Gd} {V : VV} : cM G V 2 = .inl (G.2.1.1, 60, .inl (V.1 2)) := rfl
theorem cMa3 {G : Gd} {V : VV} : cM G V 3 = .inl (G.2.1.1, 60, .inl (V.1 3)) := rfl
theorem cMa4 {G : Gd} {V : VV} : cM G V 4 = .inl (G.2.1.1, 60, .inl (V.1 4)) := rfl
theorem cMa5 {G : Gd} {V : VV} : cM G V 5 = .inl (G.2.1.1, 7, .inl (V.1 5)) := rfl
theorem cMa6 {G : Gd} {V : VV} : cM G V 6 = .inl (G.2.1.1, 120, .inl (V.1 6)) := rfl
theorem cMa7 {G : Gd} {V : VV} : cM G V 7 = .inl (G.2.1.1, 4, .inl (V.1 7)) := rfl
theorem cMa8 {G : Gd} {V : VV} : cM G V 8 = .inl (G.2.1.1, 4, .inl (V.1 8)) := rfl
theorem cMa9 {G : Gd} {V : VV} : cM G V 9 = .inl (G.2.1.2.1, 160, .inr (.inl (V.2 9))) := rfl
theorem cMa10 {G : Gd} {V : VV} : cM G V 10 = .inl (G.2.1.2.1, 40, .inr (.inl (V.2 10))) := rfl
theorem cMaw1 {G : Gd} {V V1 : VV} {i : Nat} {v : Int32} (e : V1 = wI V 1 i v) : cM G V1 1 = .inl (G.2.1.1, 60, .inl (upd (V.1 1) i v)) := by rw [cMa1, e, wI_eq]
theorem cMaw2 {G : Gd} {V V1 : VV} {i : Nat} {v : Int32} (e : V1 = wI V 2 i v) : cM G V1 2 = .inl (G.2.1.1, 60, .inl (upd (V.1 2) i v)) := by rw [cMa2, e, wI_eq]
theorem cMaw3 {G : Gd} {V V1 : VV} {i : Nat} {v : Int32} (e : V1 = wI V 3 i v) : cM G V1 3 = .inl (G.2.1.1, 60, .inl (upd (V.1 3) i v)) := by rw [cMa3, e, wI_eq]
theorem cMaw4 {G : Gd} {V V1 : VV} {i : Nat} {v : Int32} (e : V1 = wI V 4 i v) : cM G V1 4 = .inl (G.2.1.1, 60, .inl (upd (V.1 4) i v)) := by rw [cMa4, e, wI_eq]
theorem cMaw5 {G : Gd} {V V1 : VV} {i : Nat} {v : Int32} (e : V1 = wI V 5 i v) : cM G V1 5 = .inl (G.2.1.1, 7, .inl (upd (V.1 5) i v)) := by rw [cMa5, e, wI_eq]
theorem cMaw6 {G : Gd} {V V1 : VV} {i : Nat} {v : Int32} (e : V1 = wI V 6 i v) : cM G V1 6 = .inl (G.2.1.1, 120, .inl (upd (V.1 6) i v)) := by rw [cMa6, e, wI_eq]
theorem cMaw7 {G : Gd} {V V1 : VV} {i : Nat} {v : Int32} (e : V1 = wI V 7 i v) : cM G V1 7 = .inl (G.2.1.1, 4, .inl (upd (V.1 7) i v)) := by rw [cMa7, e, wI_eq]
theorem cMaw8 {G : Gd} {V V1 : VV} {i : Nat} {v : Int32} (e : V1 = wI V 8 i v) : cM G V1 8 = .inl (G.2.1.1, 4, .inl (upd (V.1 8) i v)) := by rw [cMa8, e, wI_eq]
theorem cMaw9 {G : Gd} {V V1 : VV} {i : Nat} {v : Int64} (e : V1 = wJ V 9 i v) : cM G V1 9 = .inl (G.2.1.2.1, 160, .inr (.inl (vp_updL (V.2 9) i v))) := by rw [cMa9, e, wJ_eq]
theorem cMaw10 {G : Gd} {V V1 : VV} {i : Nat} {v : Int64} (e : V1 = wJ V 10 i v) : cM G V1 10 = .inl (G.2.1.2.1, 40, .inr (.inl (vp_updL (V.2 10) i v))) := by rw [cMa10, e, wJ_eq]
theorem cC26_w {G : Gd} {V V1 : VV} {i : Nat} {v : Int32} (e : V1 = wI V 26 i v) : cC G V1 26 = .inl (G.2.1.1, 120, .inl (upd (V.1 26) i v)) := by rw [cC26, e, wI_eq]
theorem cC28_w {G : Gd} {V V1 : VV} {i : Nat} {v : Int32} (e : V1 = wI V 28 i v) : cC G V1 28 = .inl (G.2.1.1, 7, .inl (upd (V.1 28) i v)) := by rw [cC28, e, wI_eq]
theorem ite_cases {α : Type} {c : Prop} [d : Decidable c] {x y r : α} (h : @ite α c d x y = r) : (c ∧ x = r) ∨ (¬ c ∧ y = r) := by
  by_cases hc : c
  · exact Or.inl ⟨hc, i_t hc h⟩
  · exact Or.inr ⟨hc, i_f hc h⟩
def XM : State → Prop := fun _ => True
theorem xs_M {n : Nat} (G : Gd) : XS n G XM := ⟨fun _ _ _ _ _ => trivial, fun _ _ _ _ _ => trivial⟩
section RE
variable {p : Program} {l : Launch} {e : Env} {R : Room} {s : State} {m : MethodId} {args : Array Value} {below : List Frame} {meth : Method} {c : Code} {H : Heap} {locs : List Loc}
variable {cc : ByteArray} {pc nL : Nat} {ls : Array Slot} {n : Nat} {G : Gd} {X : State → Prop} {own : String} {cf : VV → Nat → va_E} {V V' : VV}
theorem retIe {v r : Int32} (C : Cx n G X p m c cc nL s args own) (hr : meth.sig.returnType = some .int) (hlk : meth.locks = false) (hd : Dy n G (cf V) s H locs) (he : some (v, V) = some (r, V')) (hdg : decode cc pc = .ok (.ireturn, 1)) : W p l e R s m args below meth c H locs 0 0 (MQ below (QI n G (cf V') (fun r' => r' = r)) args s 0 0 (inA n G.2.2)) (F0 m pc ls [.int v]) := by
  cases he
  exact retI C hr hlk hd rfl hdg
theorem retZe {v r : Int32} (C : Cx n G X p m c cc nL s args own) (hr : meth.sig.returnType = some .boolean) (hlk : meth.locks = false) (hd : Dy n G (cf V) s H locs) (hz : narrow .boolean (.int v) = .int v) (he : some (v, V) = some (r, V')) (hdg : decode cc pc = .ok (.ireturn, 1)) : W p l e R s m args below meth c H locs 0 0 (MQ below (QI n G (cf V') (fun r' => r' = r ∧ narrow .boolean (.int r) = .int r)) args s 0 0 (inA n G.2.2)) (F0 m pc ls [.int v]) := by
  cases he
  exact retZ C hr hlk hd hz ⟨rfl, hz⟩ hdg
theorem retJe {v r : Int64} (C : Cx n G X p m c cc nL s args own) (hr : meth.sig.returnType = some .long) (hlk : meth.locks = false) (hd : Dy n G (cf V) s H locs) (he : some (v, V) = some (r, V')) (hdg : decode cc pc = .ok (.lreturn, 1)) : W p l e R s m args below meth c H locs 0 0 (MQ below (QL n G (cf V') (fun r' => r' = r)) args s 0 0 (inA n G.2.2)) (F0 m pc ls [.long v]) := by
  cases he
  exact retJ C hr hlk hd rfl hdg
theorem retVe (C : Cx n G X p m c cc nL s args own) (hr : meth.sig.returnType = none) (hlk : meth.locks = false) (hd : Dy n G (cf V) s H locs) (he : some V = some V') (hdg : decode cc pc = .ok (.return_, 1)) : W p l e R s m args below meth c H locs 0 0 (MQ below (QV n G (cf V')) args s 0 0 (inA n G.2.2)) (F0 m pc ls []) := by
  cases he
  exact retV C hr hlk hd hdg
end RE
section RT
variable {p : Program} {l : Launch} {e : Env} {R : Room} {s : State} {m : MethodId} {args : Array Value} {below : List Frame} {meth : Method} {c : Code} {H : Heap} {locs : List Loc} {Q : State → Prop}
variable {cc : ByteArray} {pc : Nat} {ls : Array Slot} {rest : List Value}
theorem rtabIn (hexec : p.tables.exec = Jvm.exec) (hb : c.code = cc) {dflt lo hi : Int} {offs : Array Int} {len : Nat} {x k : Int32} {off : Int} {tgt : Nat} (hdg : decode cc pc = .ok (.tableswitch dflt lo hi offs, len)) (hk : x = k) (h1 : ¬ k.toInt < lo) (h2 : ¬ hi < k.toInt) (ho : offs[(k.toInt - lo).toNat]? = some off) (ht : (pc : Int) + off = (tgt : Int))
    (kk : W p l e R s m args below meth c H locs 0 0 Q (F0 m tgt ls rest)) : W p l e R s m args below meth c H locs 0 0 Q (F0 m pc ls (.int x :: rest)) := by
  subst hk
  exact lv_tableIn hexec hb hdg h1 h2 ho ht kk
theorem rlookIn (hexec : p.tables.exec = Jvm.exec) (hb : c.code = cc) {dflt : Int} {ps : Array (Int × Int)} {len : Nat} {x k : Int32} {off : Int} {tgt : Nat} (hdg : decode cc pc = .ok (.lookupswitch dflt ps, len)) (hk : x = k) (hp : (ps.toList.zip (ps.toList.drop 1)).all (fun (a, next) => a.1 < next.1) = true) (ho : Op.lookupswitch.offset ps.toList dflt k.toInt = off) (ht : (pc : Int) + off = (tgt : Int))
    (kk : W p l e R s m args below meth c H locs 0 0 Q (F0 m tgt ls rest)) : W p l e R s m args below meth c H locs 0 0 Q (F0 m pc ls (.int x :: rest)) := by
  subst hk
  exact lv_lookup hexec hb hdg hp ho ht kk
end RT
