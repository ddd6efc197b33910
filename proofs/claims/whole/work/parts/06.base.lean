/-! ===== pure words of the mirrored programs ===== -/
abbrev VV : Type := (Nat → Nat → Int32) × (Nat → Nat → Int64)
def inb (i : Int32) (n : Nat) : Bool := !(decide (i < 0) || decide (n ≤ i.toNatClampNeg))
theorem inb_in {i : Int32} {n : Nat} (h : inb i n = true) : vp_in i n := by
  unfold inb at h
  unfold vp_in
  simpa using h
theorem in_inb {i : Int32} {n : Nat} (h : vp_in i n) : inb i n = true := by
  unfold inb
  unfold vp_in at h
  simpa using h
theorem g_some {α : Type} {c : Bool} {x : Option α} {y : α} (h : (if c = true then x else none) = some y) : c = true ∧ x = some y := by
  cases c with
  | true => exact ⟨rfl, by simpa using h⟩
  | false => simp at h
theorem i_t {α : Type} {c : Prop} [d : Decidable c] {x y r : α} (hc : c) (h : @ite α c d x y = r) : x = r := by rw [if_pos hc] at h; exact h
theorem i_f {α : Type} {c : Prop} [d : Decidable c] {x y r : α} (hc : ¬ c) (h : @ite α c d x y = r) : y = r := by rw [if_neg hc] at h; exact h
theorem b_some {α β : Type} {x : Option α} {f : α → Option β} {y : β} (h : x.bind f = some y) : ∃ a, x = some a ∧ f a = some y := by
  cases x with
  | none => simp at h
  | some a => exact ⟨a, rfl, by simpa using h⟩
def bV {α : Type} (x : VV) (f : VV → α) : α := f x
theorem bv_ex {α : Type} {x : VV} {f : VV → α} {r : α} (h : bV x f = r) : ∃ y, y = x ∧ f y = r := ⟨x, rfl, h⟩
def wI (V : VV) (c k : Nat) (v : Int32) : VV := (fun c' => if c' = c then upd (V.1 c) k v else V.1 c', V.2)
def wJ (V : VV) (c k : Nat) (v : Int64) : VV := (V.1, fun c' => if c' = c then vp_updL (V.2 c) k v else V.2 c')
def cpI (V : VV) (c1 c0 sp dp n : Nat) : VV := (fun c' => if c' = c1 then va_cpy (V.1 c0) (V.1 c1) sp dp n else V.1 c', V.2)
def cpJ (V : VV) (c1 c0 sp dp n : Nat) : VV := (V.1, fun c' => if c' = c1 then va_cpy (V.2 c0) (V.2 c1) sp dp n else V.2 c')
theorem tbl_out {x : Int32} {lo hi : Int} (h : ∀ k : Int, lo ≤ k → k ≤ hi → x ≠ Int32.ofInt k) : x.toInt < lo ∨ hi < x.toInt := by
  by_cases h1 : x.toInt < lo
  · exact Or.inl h1
  · by_cases h2 : hi < x.toInt
    · exact Or.inr h2
    · exact absurd (Int32.ofInt_toInt x).symm (h x.toInt (by omega) (by omega))
/-! ===== the tables' words that keep ===== -/
def TG : List Cond := lw_tbl.filter goodWord
theorem tg {w : Cond} (i : Nat) (h : lw_tbl[i]? = some w) (g : goodWord w = true) : w ∈ TG := List.mem_filter.mpr ⟨List.mem_of_getElem? h, g⟩
theorem tg_ws {ws : List Cond} (h : ∀ w ∈ ws, w ∈ lw_tbl) (g : ws.all goodWord = true) : ∀ w ∈ ws, w ∈ TG := fun w hw => List.mem_filter.mpr ⟨h w hw, List.all_eq_true.mp g w hw⟩
theorem tg_good {w : Cond} (h : w ∈ TG) : (w.onTables && w.keeps) = true ∨ ∃ ty, w = .arrayClass ty := good_of_word (List.mem_filter.mp h).2
theorem tgX0 : ∀ w ∈ u_ws RX0 TX0 11, w ∈ TG := tg_ws inX0 (by decide +kernel)
theorem tgX1 : ∀ w ∈ u_ws RX1 TX1 3, w ∈ TG := tg_ws inX1 (by decide +kernel)
theorem tgX2 : ∀ w ∈ u_ws RX2 TX2 7, w ∈ TG := tg_ws inX2 (by decide +kernel)
theorem tgX3 : ∀ w ∈ u_ws RX3 TX3 7, w ∈ TG := tg_ws inX3 (by decide +kernel)
theorem tgX4 : ∀ w ∈ u_ws RX4 TX4 18, w ∈ TG := tg_ws inX4 (by decide +kernel)
/-! ===== worlds of fixed shape ===== -/
def gW (n : Nat) (ad : Nat → Nat) (cell : Nat → va_E) : va_W := (List.range n).map fun c => (ad c, cell c)
theorem gW_at {n : Nat} {ad : Nat → Nat} {cell : Nat → va_E} {c : Nat} (h : c < n) : (gW n ad cell)[c]? = some (ad c, cell c) := by
  simp [gW, List.getElem?_map, List.getElem?_range, h]
theorem gW_some {n : Nat} {ad : Nat → Nat} {cell : Nat → va_E} {c : Nat} {q : Nat × va_E} (h : (gW n ad cell)[c]? = some q) : c < n ∧ q = (ad c, cell c) := by
  have h1 : c < n := by
    have := (List.getElem?_eq_some_iff.mp h).1
    simpa [gW] using this
  rw [gW_at h1] at h
  exact ⟨h1, (Option.some.inj h).symm⟩
theorem gW_set {n : Nat} {ad : Nat → Nat} {cell cell' : Nat → va_E} {c : Nat} {e : va_E} (hc : c < n) (he : cell' c = e) (hn : ∀ i, i ≠ c → cell' i = cell i) : (gW n ad cell).set c (ad c, e) = gW n ad cell' := by
  apply List.ext_getElem?
  intro i
  by_cases hi : i = c
  · subst hi
    rw [gW_at hc, List.getElem?_set_self (by simpa [gW] using hc), he]
  · rw [List.getElem?_set_ne (Ne.symm hi)]
    by_cases h2 : i < n
    · rw [gW_at h2, gW_at h2, hn i hi]
    · rw [List.getElem?_eq_none (by simp [gW]; omega), List.getElem?_eq_none (by simp [gW]; omega)]
def inA (n : Nat) (ad : Nat → Nat) : Nat → Prop := fun q => ∃ c, c < n ∧ q = ad c
def Inj (n : Nat) (ad : Nat → Nat) : Prop := ∀ i j, i < n → j < n → ad i = ad j → i = j
theorem gW_D {n : Nat} {ad : Nat → Nat} {cell : Nat → va_E} (h : Inj n ad) : va_D (inA n ad) (gW n ad cell) := by
  refine ⟨fun i j p q hi hj hpq => ?_, fun k q hk => ?_⟩
  · obtain ⟨h1, rfl⟩ := gW_some hi
    obtain ⟨h2, rfl⟩ := gW_some hj
    exact h i j h1 h2 hpq
  · obtain ⟨h1, rfl⟩ := gW_some hk
    exact ⟨k, h1, rfl⟩
/-- tables, array classes, addresses -/
abbrev Gd : Type := va_G × (ClassId × ClassId × ClassId) × (Nat → Nat)
abbrev tyL (G : Gd) : List (ClassId × FieldType) := [(G.2.1.1, .int), (G.2.1.2.1, .long), (G.2.1.2.2, .object "FogKept$Sheet")]
/-- a predicate on states that stays while nothing outside the world changes -/
def XS (n : Nat) (G : Gd) (X : State → Prop) : Prop := (∀ (U : State) (g : JFrame) (mk : MethodId) (a : Array Value), X U → X (U.calling g mk a)) ∧ ∀ s U : State, X s → s.WarmedH U.vm → (∀ q : Nat, q < s.heap.size → ¬ inA n G.2.2 q → U.heap[q]? = s.heap[q]?) → X U
abbrev Cx (n : Nat) (G : Gd) (X : State → Prop) (p : Program) (m : MethodId) (c : Code) (cc : ByteArray) (nL : Nat) (s : State) (args : Array Value) (own : String) : Prop := CallFix p m c cc nL s args TG own ∧ va_K G.1 vwCl (tyL G) s ∧ Inj n G.2.2 ∧ XS n G X ∧ X s
abbrev Dy (n : Nat) (G : Gd) (cell : Nat → va_E) (s : State) (H : Heap) (locs : List Loc) : Prop := va_P G.1 vwCl (gW n G.2.2 cell) H ∧ va_S (inA n G.2.2) s.heap H locs
/-- a method's start and its world behind it -/
def PPs (n : Nat) (G : Gd) (X : State → Prop) (cell : Nat → va_E) (U : State) : Prop := va_P G.1 vwCl (gW n G.2.2 cell) U.heap ∧ va_K G.1 vwCl (tyL G) U ∧ X U
def PPt (n : Nat) (G : Gd) (cell : Nat → va_E) (U : State) : Prop := va_P G.1 vwCl (gW n G.2.2 cell) U.heap
abbrev wsM (y : MethodName) (bytes : ByteArray) (maxL : Nat) (ret : Option FieldType) : List Cond := .code y bytes maxL ret :: TG
abbrev QI (n : Nat) (G : Gd) (cell' : Nat → va_E) (P : Int32 → Prop) := va_Qi (fun (r : Int32) (_ : Unit) => P r) (fun _ t => PPt n G cell' t) (inA n G.2.2)
abbrev QL (n : Nat) (G : Gd) (cell' : Nat → va_E) (P : Int64 → Prop) := va_Ql (fun (r : Int64) (_ : Unit) => P r) (fun _ t => PPt n G cell' t) (inA n G.2.2)
abbrev QV (n : Nat) (G : Gd) (cell' : Nat → va_E) := va_Qv (fun (_ : Unit) => True) (fun _ t => PPt n G cell' t) (inA n G.2.2)
abbrev rmF (fr lo : Nat) : Room := { frames := fr, cells := 0, slots := 0, locals := lo }
/-- an int method -/
def MI (l : Launch) (n : Nat) (G : Gd) (X : State → Prop) (y : MethodName) (bytes : ByteArray) (maxL : Nat) (fr lo : Nat) (vals : List Value) (cell cell' : Nat → va_E) (r0 : Int32) : Prop := Met l y (wsM y bytes maxL (some .int)) (rmF fr lo) (va_Pc vals (PPs n G X cell)) (QI n G cell' (fun r => r = r0)) 0 0 (inA n G.2.2)
def MZ (l : Launch) (n : Nat) (G : Gd) (X : State → Prop) (y : MethodName) (bytes : ByteArray) (maxL : Nat) (fr lo : Nat) (vals : List Value) (cell cell' : Nat → va_E) (r0 : Int32) : Prop := Met l y (wsM y bytes maxL (some .boolean)) (rmF fr lo) (va_Pc vals (PPs n G X cell)) (QI n G cell' (fun r => r = r0 ∧ narrow .boolean (.int r0) = .int r0)) 0 0 (inA n G.2.2)
def MJ (l : Launch) (n : Nat) (G : Gd) (X : State → Prop) (y : MethodName) (bytes : ByteArray) (maxL : Nat) (fr lo : Nat) (vals : List Value) (cell cell' : Nat → va_E) (r0 : Int64) : Prop := Met l y (wsM y bytes maxL (some .long)) (rmF fr lo) (va_Pc vals (PPs n G X cell)) (QL n G cell' (fun r => r = r0)) 0 0 (inA n G.2.2)
def MV (l : Launch) (n : Nat) (G : Gd) (X : State → Prop) (y : MethodName) (bytes : ByteArray) (maxL : Nat) (fr lo : Nat) (vals : List Value) (cell cell' : Nat → va_E) : Prop := Met l y (wsM y bytes maxL none) (rmF fr lo) (va_Pc vals (PPs n G X cell)) (QV n G cell') 0 0 (inA n G.2.2)
theorem PPs_blind {n : Nat} {G : Gd} {X : State → Prop} {cell : Nat → va_E} {vals : List Value} (hX : XS n G X) : FrameBlind (va_Pc vals (PPs n G X cell)) := by
  intro a U g mk q
  obtain ⟨q0, qP, qK, qX⟩ := q
  exact ⟨q0, qP, va_K.moved (u := U) (U := U.calling g mk a) (Vm.Alike.refl U.vm) qK, hX.1 U g mk a qX⟩
theorem PPs_at {n : Nat} {G : Gd} {X : State → Prop} {cell : Nat → va_E} {vals : List Value} {s : State} {H : Heap} {locs : List Loc} (hX : XS n G X) (hs : X s) (hK : va_K G.1 vwCl (tyL G) s) (hd : Dy n G cell s H locs) : ∀ U : State, U.heap = H → s.WarmedH U.vm → va_Pc vals (PPs n G X cell) vals.toArray U := by
  intro U hU hW
  exact ⟨rfl, by rw [hU]; exact hd.1, va_K.moved hW.alike hK, hX.2 s U hs hW (fun q h1 h2 => by rw [hU]; exact hd.2.2.1 q h1 h2)⟩
/-- the start of a walk -/
theorem walk_of {l : Launch} {n : Nat} {G : Gd} {X : State → Prop} {y : MethodName} {bytes : ByteArray} {maxL : Nat} {ret : Option FieldType} {rm : Room} {vals : List Value} {cell : Nat → va_E} {Qc : Array Value → State → Outcome → State → Prop} {own : String} (hy : plainName y.cls = true) (ho : y.cls = own) (hJ : Inj n G.2.2) (hX : XS n G X) (hlen : (lg_sl vals).length ≤ maxL)
    (body : ∀ p e s m below meth c, Cx n G X p m c bytes maxL s vals.toArray own → meth.sig.returnType = ret → meth.locks = false → ∀ ls, lv_has ls maxL (lv_args 0 vals) → Dy n G cell s s.heap [] → W p l e rm s m vals.toArray below meth c s.heap [] 0 0 (MQ below Qc vals.toArray s 0 0 (inA n G.2.2)) (F0 m 0 ls [])) :
    Met l y (wsM y bytes maxL ret) rm (va_Pc vals (PPs n G X cell)) Qc 0 0 (inA n G.2.2) := by
  refine Met.ofW (cc := bytes) (maxL := maxL) (ret := ret) hy rfl ?_
  intro p e s m args below meth c s₁ B hml hv
  obtain ⟨rfl, hP, hK, hXs⟩ := hv
  have hts := atoms_spec (ws := wsM y bytes maxL ret) B.pre
  have hown : s.vm.findClass own = some m.cls := by rw [← ho]; exact findClass_of_methodNamed B.named
  have hl := lv_entry vals (n := maxL) hlen
  rw [lg_entry_eq]
  exact body p e s m below meth c ⟨⟨B.exec, B.bytes, hml, hown, fun w h => hts w (List.mem_cons_of_mem _ h)⟩, hK, hJ, hX, hXs⟩ B.returns B.notSynchronized _ hl ⟨hP, va_S.rf⟩

