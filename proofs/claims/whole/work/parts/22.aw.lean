/- worlds by handles: handle k is the cell at base + k. gr: the world lies at the heap's end and may grow; else its cells are those below base + lim -/
abbrev aw_E : Type := (Nat × vp_A) ⊕ (Nat × List Value)
abbrev aw_H : Type := List aw_E
def aw_v (b : Nat) (v : Value) : Value := match v with
  | .ref k => .ref (b + k)
  | w => w
def aw_a (b : Nat) (a : vp_A) : vp_A := match a with
  | (n, .inr (.inr (.inr (.inr f)))) => (n, .inr (.inr (.inr (.inr (fun j => (f j).map (fun k => b + k))))))
  | x => x
def aw_e (b : Nat) (dA : Nat → ClassId) (e : aw_E) : va_E := match e with
  | .inl (t, a) => .inl (dA t, aw_a b a)
  | .inr (ci, fs) => .inr (ci, fs.map (aw_v b))
def aw_A (b lim : Nat) (gr : Bool) : Nat → Prop := fun q => b ≤ q ∧ (gr = true ∨ q < b + lim)
def aw_md (md : Nat) (gr : Bool) : Prop := (md = 1 → gr = true) ∧ (md = 2 → gr = false)
theorem aw_md_use {md md' : Nat} {gr : Bool} (h : md' = 0 ∨ md' = md) (g : aw_md md gr) : aw_md md' gr := by
  rcases h with q | q
  · exact ⟨fun z => by omega, fun z => by omega⟩
  · rw [q]; exact g
def aw_P (D : va_G) (dA : Nat → ClassId) (b lim : Nat) (gr : Bool) (h : aw_H) (H : Heap) : Prop := (gr = true → H.size = b + h.length) ∧ (gr = false → h.length ≤ lim) ∧ ∀ (k : Nat) (e : aw_E), h[k]? = some e → va_at D vwCl (b + k, aw_e b dA e) H
def aw_K (D : va_G) (dA : Nat → ClassId) (U : State) : Prop := (∀ (c : Nat) (q : vw_C), vwCl[c]? = some q → u_Kn U q.1 q.2.1 q.2.2 (D.1 c) (D.2 c)) ∧ ∀ (t : Nat) (ty : FieldType), tyTab[t]? = some ty → ArrOfT U (dA t) ty ∧ va_RA U (dA t) ty
theorem aw_K.moved {D : va_G} {dA : Nat → ClassId} {u U : State} (hvm : u.vm.Alike U.vm) (h : aw_K D dA u) : aw_K D dA U := ⟨fun c q hq => u_Kn_moved hvm (h.1 c q hq), fun t ty ht => ⟨arrOfT_moved hvm (h.2 t ty ht).1, (h.2 t ty ht).2.moved hvm⟩⟩
theorem aw_K.one {D : va_G} {dA : Nat → ClassId} {U : State} (h : aw_K D dA U) {t : Nat} {ty : FieldType} (ht : tyTab[t]? = some ty) : va_K D vwCl [(dA t, ty)] U := by
  refine ⟨h.1, fun k q hk => ?_⟩
  have hz : k < 1 := (List.getElem?_eq_some_iff.mp hk).1
  rw [show k = 0 by omega] at hk
  cases hk
  exact h.2 t ty ht
theorem aw_K.nil {D : va_G} {dA : Nat → ClassId} {U : State} (h : aw_K D dA U) : va_K D vwCl [] U := ⟨h.1, fun k q hk => by simp at hk⟩
theorem aw_P.one {D : va_G} {dA : Nat → ClassId} {b lim : Nat} {gr : Bool} {h : aw_H} {H : Heap} (hP : aw_P D dA b lim gr h H) {k : Nat} {e : aw_E} (hk : h[k]? = some e) : va_P D vwCl [(b + k, aw_e b dA e)] H := by
  intro j q hj
  have hz : j < 1 := (List.getElem?_eq_some_iff.mp hj).1
  rw [show j = 0 by omega] at hj
  cases hj
  exact hP.2.2 k e hk
theorem aw_P.inA {D : va_G} {dA : Nat → ClassId} {b lim : Nat} {gr : Bool} {h : aw_H} {H : Heap} (hP : aw_P D dA b lim gr h H) {k : Nat} (hk : k < h.length) : aw_A b lim gr (b + k) := by
  refine ⟨Nat.le_add_right b k, ?_⟩
  cases gr with
  | true => exact Or.inl rfl
  | false => exact Or.inr (by have := hP.2.1 rfl; omega)
theorem aw_P.put {D : va_G} {dA : Nat → ClassId} {b lim : Nat} {gr : Bool} {h : aw_H} {H H1 : Heap} (hP : aw_P D dA b lim gr h H) {k : Nat} {e : aw_E} (hk : k < h.length) (z : H1.size = H.size) (he : va_at D vwCl (b + k, aw_e b dA e) H1) (oq : ∀ q : Nat, q ≠ b + k → H1[q]? = H[q]?) : aw_P D dA b lim gr (h.set k e) H1 := by
  refine ⟨fun g => by rw [z, List.length_set]; exact hP.1 g, fun g => by rw [List.length_set]; exact hP.2.1 g, fun j x hj => ?_⟩
  by_cases hjk : j = k
  · subst hjk
    rw [List.getElem?_set_self hk] at hj
    cases hj
    exact he
  · rw [List.getElem?_set_ne (Ne.symm hjk)] at hj
    exact (hP.2.2 j x hj).kept (oq _ (by omega))
theorem aw_P.push {D : va_G} {dA : Nat → ClassId} {b lim : Nat} {gr : Bool} {h : aw_H} {H H1 : Heap} (hg : gr = true) (hP : aw_P D dA b lim gr h H) {e : aw_E} (z : H1.size = H.size + 1) (he : va_at D vwCl (b + h.length, aw_e b dA e) H1) (oq : ∀ q : Nat, q < H.size → H1[q]? = H[q]?) : aw_P D dA b lim gr (h ++ [e]) H1 := by
  refine ⟨fun g => by rw [z, hP.1 g, List.length_append]; rfl, (fun g => by rw [hg] at g; cases g), fun j x hj => ?_⟩
  by_cases hl : j < h.length
  · rw [List.getElem?_append_left hl] at hj
    exact (hP.2.2 j x hj).kept (oq _ (by have := hP.1 hg; show b + j < _; omega))
  · rw [List.getElem?_append_right (by omega)] at hj
    have hz : j - h.length < 1 := (List.getElem?_eq_some_iff.mp hj).1
    have hjl : j = h.length := by omega
    subst hjl
    rw [Nat.sub_self] at hj
    cases hj
    exact he
/- links to members of a nest mate -/
def aw_N (U : State) : Prop := ∀ q ∈ nwM, va_Nw (.methodLinkNest q.1 q.2.1 q.2.2.1 q.2.2.2) U
theorem aw_N.warm {s U : State} (hW : s.WarmedH U.vm) (h : aw_N s) : aw_N U := fun q hq => va_Nw.warmM hW (h q hq)
theorem aw_N.same {u U : State} (hv : u.vm = U.vm) (h : aw_N u) : aw_N U := fun q hq => va_Nw.same rfl hv (h q hq)
/- known values of the locals -/
def aw_L (b : Nat) (L : List (Option Value)) (nL : Nat) (ls : Array Slot) : Prop := ∃ lv : List (Nat × Value), lv_has ls nL lv ∧ ∀ (i : Nat) (v : Value), L[i]? = some (some v) → (i, aw_v b v) ∈ lv
theorem aw_L.at {b nL i : Nat} {L : List (Option Value)} {ls : Array Slot} {v : Value} (h : aw_L b L nL ls) (hi : L[i]? = some (some v)) : ls[i]? = some (.val (aw_v b v)) := by
  obtain ⟨lv, h1, h2⟩ := h
  exact h1.2.2 _ (h2 i v hi)
def aw_mask (ms : List Bool) (L : List (Option Value)) : List (Option Value) := List.zipWith (fun (m : Bool) (x : Option Value) => match m with | true => x | false => none) ms L
theorem aw_mask_at {ms : List Bool} {L : List (Option Value)} {i : Nat} {v : Value} (h : (aw_mask ms L)[i]? = some (some v)) : L[i]? = some (some v) := by
  unfold aw_mask at h
  rw [List.getElem?_zipWith] at h
  cases hm : ms[i]? with
  | none => rw [hm] at h; cases h
  | some m =>
    cases hl : L[i]? with
    | none => rw [hm, hl] at h; cases h
    | some x =>
      rw [hm, hl] at h
      cases m with
      | true => exact h
      | false => cases h
theorem aw_L.mask {b nL : Nat} {L : List (Option Value)} {ls : Array Slot} (ms : List Bool) (h : aw_L b L nL ls) : aw_L b (aw_mask ms L) nL ls := by
  obtain ⟨lv, h1, h2⟩ := h
  exact ⟨lv, h1, fun i v hi => h2 i v (aw_mask_at hi)⟩
def aw_clr (L : List (Option Value)) (i : Nat) : List (Option Value) := match i with
  | 0 => L
  | j + 1 => match L[j]? with
    | some (some (.long _)) => L.set j none
    | some (some (.double _)) => L.set j none
    | _ => L
def aw_s1 (L : List (Option Value)) (i : Nat) (v : Value) : List (Option Value) := (aw_clr L i).set i (some v)
def aw_s2 (L : List (Option Value)) (i : Nat) (v : Value) : List (Option Value) := ((aw_clr L i).set (i + 1) none).set i (some v)

def aw_C (own nm : String) (cc : ByteArray) (nL : Nat) (ret : Option FieldType) (d md mc ms : Nat) (p : Program) (R : Room) (s : State) (m : MethodId) (args : Array Value) (meth : Method) (c : Code) (D : va_G) (dA : Nat → ClassId) (b : Nat) (gr : Bool) : Prop :=
  p.tables.exec = Jvm.exec ∧ c.code = cc ∧ c.maxLocals = nL ∧ s.vm.findClass own = some m.cls ∧ (∀ w ∈ wsAll, w.before args s = true) ∧ meth.sig.returnType = ret ∧ meth.locks = false ∧ meth.name = nm ∧ (d ≤ R.frames ∧ 40 * d ≤ R.locals ∧ R.cells = mc ∧ R.slots = ms) ∧ aw_K D dA s ∧ aw_N s ∧ aw_md md gr
abbrev aw_Qc (D : va_G) (dA : Nat → ClassId) (b lim : Nat) (gr : Bool) (Q : Option Value → aw_H → Prop) : Array Value → State → Outcome → State → Prop := fun _ st oc t => (∃ (v : Option Value) (h : aw_H), oc = .returned (v.map (aw_v b)) ∧ Q v h ∧ aw_P D dA b lim gr h t.heap) ∧ va_F (aw_A b lim gr) st t
def AW (own nm : String) (cc : ByteArray) (nL : Nat) (ret : Option FieldType) (d md mc ms : Nat) (Q : Option Value → aw_H → Prop) (pc : Nat) (L : List (Option Value)) (st : List Value) (h : aw_H) (kc kn : Nat) : Prop :=
  ∀ (p : Program) (l : Launch) (e : Env) (R : Room) (s : State) (m : MethodId) (args : Array Value) (below : List Frame) (meth : Method) (c : Code) (D : va_G) (dA : Nat → ClassId) (b lim : Nat) (gr : Bool) (H : Heap) (locs : List Loc) (ls : Array Slot),
    aw_C own nm cc nL ret d md mc ms p R s m args meth c D dA b gr → va_S (aw_A b lim gr) s.heap H locs → aw_P D dA b lim gr h H → aw_L b L nL ls →
    W p l e R s m args below meth c H locs kc kn (MQ below (aw_Qc D dA b lim gr Q) args s mc ms (aw_A b lim gr)) (F0 m pc ls (st.map (aw_v b)))
def AM (y : MethodName) (cc : ByteArray) (nL : Nat) (ret : Option FieldType) (d md mc ms : Nat) (av : List Value) (h : aw_H) (Q : Option Value → aw_H → Prop) : Prop :=
  ∀ (l : Launch) (D : va_G) (dA : Nat → ClassId) (b lim : Nat) (gr : Bool), aw_md md gr → Met l y (Cond.code y cc nL ret :: wsAll) ({ frames := d, cells := mc, slots := ms, locals := 40 * d }) (va_Pc (av.map (aw_v b)) (fun U => aw_P D dA b lim gr h U.heap ∧ aw_K D dA U ∧ aw_N U)) (aw_Qc D dA b lim gr Q) mc ms (aw_A b lim gr)
section AWR
variable {own nm : String} {cc : ByteArray} {nL : Nat} {ret : Option FieldType} {d md mc ms : Nat} {Q : Option Value → aw_H → Prop} {pc pc' : Nat} {L L' : List (Option Value)} {st : List Value} {h h' : aw_H} {kc kn : Nat}

theorem aw_weak (ms' : List Bool) (e : aw_mask ms' L = L') (k : AW own nm cc nL ret d md mc ms Q pc L' st h kc kn) : AW own nm cc nL ret d md mc ms Q pc L st h kc kn := by
  subst e
  intro p l e R s m args below meth c D dA b lim gr H locs ls C S P hL
  exact k p l e R s m args below meth c D dA b lim gr H locs ls C S P (hL.mask ms')
theorem aw_iadd {x y : Int32} (hd : decode cc pc = .ok (.iadd, 1)) (hp : pc + 1 = pc')  (k : AW own nm cc nL ret d md mc ms Q pc' L (.int (x + y) :: st) h kc kn) : AW own nm cc nL ret d md mc ms Q pc L (.int y :: .int x :: st) h kc kn := by
  subst hp
  intro p l e R s m args below meth c D dA b lim gr H locs ls C S P hL
  exact lv_iadd C.1 C.2.1 hd  (k p l e R s m args below meth c D dA b lim gr H locs ls C S P hL)
theorem aw_isub {x y : Int32} (hd : decode cc pc = .ok (.isub, 1)) (hp : pc + 1 = pc')  (k : AW own nm cc nL ret d md mc ms Q pc' L (.int (x - y) :: st) h kc kn) : AW own nm cc nL ret d md mc ms Q pc L (.int y :: .int x :: st) h kc kn := by
  subst hp
  intro p l e R s m args below meth c D dA b lim gr H locs ls C S P hL
  exact lv_isub C.1 C.2.1 hd  (k p l e R s m args below meth c D dA b lim gr H locs ls C S P hL)
theorem aw_imul {x y : Int32} (hd : decode cc pc = .ok (.imul, 1)) (hp : pc + 1 = pc')  (k : AW own nm cc nL ret d md mc ms Q pc' L (.int (x * y) :: st) h kc kn) : AW own nm cc nL ret d md mc ms Q pc L (.int y :: .int x :: st) h kc kn := by
  subst hp
  intro p l e R s m args below meth c D dA b lim gr H locs ls C S P hL
  exact lv_imul C.1 C.2.1 hd  (k p l e R s m args below meth c D dA b lim gr H locs ls C S P hL)
theorem aw_iand {x y : Int32} (hd : decode cc pc = .ok (.iand, 1)) (hp : pc + 1 = pc')  (k : AW own nm cc nL ret d md mc ms Q pc' L (.int (x &&& y) :: st) h kc kn) : AW own nm cc nL ret d md mc ms Q pc L (.int y :: .int x :: st) h kc kn := by
  subst hp
  intro p l e R s m args below meth c D dA b lim gr H locs ls C S P hL
  exact lv_iand C.1 C.2.1 hd  (k p l e R s m args below meth c D dA b lim gr H locs ls C S P hL)
theorem aw_ior {x y : Int32} (hd : decode cc pc = .ok (.ior, 1)) (hp : pc + 1 = pc')  (k : AW own nm cc nL ret d md mc ms Q pc' L (.int (x ||| y) :: st) h kc kn) : AW own nm cc nL ret d md mc ms Q pc L (.int y :: .int x :: st) h kc kn := by
  subst hp
  intro p l e R s m args below meth c D dA b lim gr H locs ls C S P hL
  exact lv_ior C.1 C.2.1 hd  (k p l e R s m args below meth c D dA b lim gr H locs ls C S P hL)
theorem aw_ixor {x y : Int32} (hd : decode cc pc = .ok (.ixor, 1)) (hp : pc + 1 = pc')  (k : AW own nm cc nL ret d md mc ms Q pc' L (.int (x ^^^ y) :: st) h kc kn) : AW own nm cc nL ret d md mc ms Q pc L (.int y :: .int x :: st) h kc kn := by
  subst hp
  intro p l e R s m args below meth c D dA b lim gr H locs ls C S P hL
  exact lv_ixor C.1 C.2.1 hd  (k p l e R s m args below meth c D dA b lim gr H locs ls C S P hL)
theorem aw_ishl {x y : Int32} (hd : decode cc pc = .ok (.ishl, 1)) (hp : pc + 1 = pc')  (k : AW own nm cc nL ret d md mc ms Q pc' L (.int (x <<< (y &&& 31)) :: st) h kc kn) : AW own nm cc nL ret d md mc ms Q pc L (.int y :: .int x :: st) h kc kn := by
  subst hp
  intro p l e R s m args below meth c D dA b lim gr H locs ls C S P hL
  exact lv_ishl C.1 C.2.1 hd  (k p l e R s m args below meth c D dA b lim gr H locs ls C S P hL)
theorem aw_ishr {x y : Int32} (hd : decode cc pc = .ok (.ishr, 1)) (hp : pc + 1 = pc')  (k : AW own nm cc nL ret d md mc ms Q pc' L (.int (x >>> (y &&& 31)) :: st) h kc kn) : AW own nm cc nL ret d md mc ms Q pc L (.int y :: .int x :: st) h kc kn := by
  subst hp
  intro p l e R s m args below meth c D dA b lim gr H locs ls C S P hL
  exact lv_ishr C.1 C.2.1 hd  (k p l e R s m args below meth c D dA b lim gr H locs ls C S P hL)
theorem aw_iushr {x y : Int32} (hd : decode cc pc = .ok (.iushr, 1)) (hp : pc + 1 = pc')  (k : AW own nm cc nL ret d md mc ms Q pc' L (.int ((x.toUInt32 >>> (y.toUInt32 &&& Int32.toUInt32 31)).toInt32) :: st) h kc kn) : AW own nm cc nL ret d md mc ms Q pc L (.int y :: .int x :: st) h kc kn := by
  subst hp
  intro p l e R s m args below meth c D dA b lim gr H locs ls C S P hL
  exact lv_iushr C.1 C.2.1 hd rfl (k p l e R s m args below meth c D dA b lim gr H locs ls C S P hL)
theorem aw_idiv {x y : Int32} (hd : decode cc pc = .ok (.idiv, 1)) (hp : pc + 1 = pc') (hne : ¬ y = 0) (k : AW own nm cc nL ret d md mc ms Q pc' L (.int (x / y) :: st) h kc kn) : AW own nm cc nL ret d md mc ms Q pc L (.int y :: .int x :: st) h kc kn := by
  subst hp
  intro p l e R s m args below meth c D dA b lim gr H locs ls C S P hL
  exact lv_idiv C.1 C.2.1 hd hne (k p l e R s m args below meth c D dA b lim gr H locs ls C S P hL)
theorem aw_irem {x y : Int32} (hd : decode cc pc = .ok (.irem, 1)) (hp : pc + 1 = pc') (hne : ¬ y = 0) (k : AW own nm cc nL ret d md mc ms Q pc' L (.int (x - x / y * y) :: st) h kc kn) : AW own nm cc nL ret d md mc ms Q pc L (.int y :: .int x :: st) h kc kn := by
  subst hp
  intro p l e R s m args below meth c D dA b lim gr H locs ls C S P hL
  exact lv_irem C.1 C.2.1 hd hne (k p l e R s m args below meth c D dA b lim gr H locs ls C S P hL)
theorem aw_ladd {x y : Int64} (hd : decode cc pc = .ok (.ladd, 1)) (hp : pc + 1 = pc')  (k : AW own nm cc nL ret d md mc ms Q pc' L (.long (x + y) :: st) h kc kn) : AW own nm cc nL ret d md mc ms Q pc L (.long y :: .long x :: st) h kc kn := by
  subst hp
  intro p l e R s m args below meth c D dA b lim gr H locs ls C S P hL
  exact lv_ladd C.1 C.2.1 hd  (k p l e R s m args below meth c D dA b lim gr H locs ls C S P hL)
theorem aw_lsub {x y : Int64} (hd : decode cc pc = .ok (.lsub, 1)) (hp : pc + 1 = pc')  (k : AW own nm cc nL ret d md mc ms Q pc' L (.long (x - y) :: st) h kc kn) : AW own nm cc nL ret d md mc ms Q pc L (.long y :: .long x :: st) h kc kn := by
  subst hp
  intro p l e R s m args below meth c D dA b lim gr H locs ls C S P hL
  exact lv_lsub C.1 C.2.1 hd  (k p l e R s m args below meth c D dA b lim gr H locs ls C S P hL)
theorem aw_lmul {x y : Int64} (hd : decode cc pc = .ok (.lmul, 1)) (hp : pc + 1 = pc')  (k : AW own nm cc nL ret d md mc ms Q pc' L (.long (x * y) :: st) h kc kn) : AW own nm cc nL ret d md mc ms Q pc L (.long y :: .long x :: st) h kc kn := by
  subst hp
  intro p l e R s m args below meth c D dA b lim gr H locs ls C S P hL
  exact lv_lmul C.1 C.2.1 hd  (k p l e R s m args below meth c D dA b lim gr H locs ls C S P hL)
theorem aw_ldiv {x y : Int64} (hd : decode cc pc = .ok (.ldiv, 1)) (hp : pc + 1 = pc') (hne : ¬ y = 0) (k : AW own nm cc nL ret d md mc ms Q pc' L (.long (x / y) :: st) h kc kn) : AW own nm cc nL ret d md mc ms Q pc L (.long y :: .long x :: st) h kc kn := by
  subst hp
  intro p l e R s m args below meth c D dA b lim gr H locs ls C S P hL
  exact lv_ldiv C.1 C.2.1 hd hne (k p l e R s m args below meth c D dA b lim gr H locs ls C S P hL)
theorem aw_ineg {x : Int32} (hd : decode cc pc = .ok (.ineg, 1)) (hp : pc + 1 = pc')  (k : AW own nm cc nL ret d md mc ms Q pc' L (.int (-x) :: st) h kc kn) : AW own nm cc nL ret d md mc ms Q pc L (.int x :: st) h kc kn := by
  subst hp
  intro p l e R s m args below meth c D dA b lim gr H locs ls C S P hL
  exact lv_ineg C.1 C.2.1 hd  (k p l e R s m args below meth c D dA b lim gr H locs ls C S P hL)
theorem aw_i2l {x : Int32} (hd : decode cc pc = .ok (.i2l, 1)) (hp : pc + 1 = pc')  (k : AW own nm cc nL ret d md mc ms Q pc' L (.long x.toInt64 :: st) h kc kn) : AW own nm cc nL ret d md mc ms Q pc L (.int x :: st) h kc kn := by
  subst hp
  intro p l e R s m args below meth c D dA b lim gr H locs ls C S P hL
  exact lv_i2l C.1 C.2.1 hd rfl (k p l e R s m args below meth c D dA b lim gr H locs ls C S P hL)
theorem aw_i2b {x : Int32} (hd : decode cc pc = .ok (.i2b, 1)) (hp : pc + 1 = pc')  (k : AW own nm cc nL ret d md mc ms Q pc' L (.int x.toInt8.toInt32 :: st) h kc kn) : AW own nm cc nL ret d md mc ms Q pc L (.int x :: st) h kc kn := by
  subst hp
  intro p l e R s m args below meth c D dA b lim gr H locs ls C S P hL
  exact lv_i2b C.1 C.2.1 hd rfl (k p l e R s m args below meth c D dA b lim gr H locs ls C S P hL)
theorem aw_lcmp {x y : Int64} (hd : decode cc pc = .ok (.lcmp, 1)) (hp : pc + 1 = pc')  (k : AW own nm cc nL ret d md mc ms Q pc' L (.int (lg_cmp x y) :: st) h kc kn) : AW own nm cc nL ret d md mc ms Q pc L (.long y :: .long x :: st) h kc kn := by
  subst hp
  intro p l e R s m args below meth c D dA b lim gr H locs ls C S P hL
  exact W.lcmp C.1 C.2.1 hd  (k p l e R s m args below meth c D dA b lim gr H locs ls C S P hL)
theorem aw_iconst {n : Int} {v : Int32} (hd : decode cc pc = .ok (.iconst n, 1)) (hp : pc + 1 = pc') (hv : Int32.ofInt n = v) (k : AW own nm cc nL ret d md mc ms Q pc' L (.int v :: st) h kc kn) : AW own nm cc nL ret d md mc ms Q pc L (st) h kc kn := by
  subst hp
  intro p l e R s m args below meth c D dA b lim gr H locs ls C S P hL
  exact lv_iconst C.1 C.2.1 hd hv (k p l e R s m args below meth c D dA b lim gr H locs ls C S P hL)
theorem aw_lconst {n : Fin 2} {v : Int64} (hd : decode cc pc = .ok (.lconst n, 1)) (hp : pc + 1 = pc') (hv : Int64.ofNat (n : Nat) = v) (k : AW own nm cc nL ret d md mc ms Q pc' L (.long v :: st) h kc kn) : AW own nm cc nL ret d md mc ms Q pc L (st) h kc kn := by
  subst hp
  intro p l e R s m args below meth c D dA b lim gr H locs ls C S P hL
  exact lv_lconst C.1 C.2.1 hd hv (k p l e R s m args below meth c D dA b lim gr H locs ls C S P hL)
theorem aw_bipush {n : Int} {v : Int32} (hd : decode cc pc = .ok (.bipush n, 2)) (hp : pc + 2 = pc') (hv : (Int8.ofInt n).toInt32 = v) (k : AW own nm cc nL ret d md mc ms Q pc' L (.int v :: st) h kc kn) : AW own nm cc nL ret d md mc ms Q pc L (st) h kc kn := by
  subst hp
  intro p l e R s m args below meth c D dA b lim gr H locs ls C S P hL
  exact lv_bipush C.1 C.2.1 hd hv (k p l e R s m args below meth c D dA b lim gr H locs ls C S P hL)
theorem aw_sipush {n : Int} {v : Int32} (hd : decode cc pc = .ok (.sipush n, 3)) (hp : pc + 3 = pc') (hv : (Int16.ofInt n).toInt32 = v) (k : AW own nm cc nL ret d md mc ms Q pc' L (.int v :: st) h kc kn) : AW own nm cc nL ret d md mc ms Q pc L (st) h kc kn := by
  subst hp
  intro p l e R s m args below meth c D dA b lim gr H locs ls C S P hL
  exact lv_sipush C.1 C.2.1 hd hv (k p l e R s m args below meth c D dA b lim gr H locs ls C S P hL)
theorem aw_cat (b : Nat) (v : Value) : (aw_v b v).category = v.category := by cases v <;> rfl
theorem aw_dup {va : Value} (hd : decode cc pc = .ok (.dup, 1)) (hp : pc + 1 = pc') (hva : va.category = 1) (k : AW own nm cc nL ret d md mc ms Q pc' L (va :: va :: st) h kc kn) : AW own nm cc nL ret d md mc ms Q pc L (va :: st) h kc kn := by
  subst hp
  intro p l e R s m args below meth c D dA b lim gr H locs ls C S P hL
  exact lv_dup C.1 C.2.1 hd ((aw_cat b va).trans hva) (k p l e R s m args below meth c D dA b lim gr H locs ls C S P hL)
theorem aw_pop {va : Value} (hd : decode cc pc = .ok (.pop, 1)) (hp : pc + 1 = pc') (hva : va.category = 1) (k : AW own nm cc nL ret d md mc ms Q pc' L (st) h kc kn) : AW own nm cc nL ret d md mc ms Q pc L (va :: st) h kc kn := by
  subst hp
  intro p l e R s m args below meth c D dA b lim gr H locs ls C S P hL
  exact lv_pop C.1 C.2.1 hd ((aw_cat b va).trans hva) (k p l e R s m args below meth c D dA b lim gr H locs ls C S P hL)
theorem aw_dup2 {va vb : Value} (hd : decode cc pc = .ok (.dup2, 1)) (hp : pc + 1 = pc') (hva : va.category = 1) (hvb : vb.category = 1) (k : AW own nm cc nL ret d md mc ms Q pc' L (va :: vb :: va :: vb :: st) h kc kn) : AW own nm cc nL ret d md mc ms Q pc L (va :: vb :: st) h kc kn := by
  subst hp
  intro p l e R s m args below meth c D dA b lim gr H locs ls C S P hL
  exact lv_dup2_11 C.1 C.2.1 hd ((aw_cat b va).trans hva) ((aw_cat b vb).trans hvb) (k p l e R s m args below meth c D dA b lim gr H locs ls C S P hL)
theorem aw_if_eq {x : Int32} {off : Int} {tgt : Nat} (hd : decode cc pc = .ok (.ifCond .eq off, 3)) (ht : (pc : Int) + off = (tgt : Int)) (hp : pc + 3 = pc') (kt : x = 0 → AW own nm cc nL ret d md mc ms Q tgt L st h kc kn) (kf : ¬ x = 0 → AW own nm cc nL ret d md mc ms Q pc' L st h kc kn) : AW own nm cc nL ret d md mc ms Q pc L (.int x :: st) h kc kn := by
  subst hp
  intro p l e R s m args below meth c D dA b lim gr H locs ls C S P hL
  exact lv_if_eq C.1 C.2.1 hd ht (fun q => kt q p l e R s m args below meth c D dA b lim gr H locs ls C S P hL) (fun q => kf q p l e R s m args below meth c D dA b lim gr H locs ls C S P hL)
theorem aw_if_ne {x : Int32} {off : Int} {tgt : Nat} (hd : decode cc pc = .ok (.ifCond .ne off, 3)) (ht : (pc : Int) + off = (tgt : Int)) (hp : pc + 3 = pc') (kt : ¬ x = 0 → AW own nm cc nL ret d md mc ms Q tgt L st h kc kn) (kf : x = 0 → AW own nm cc nL ret d md mc ms Q pc' L st h kc kn) : AW own nm cc nL ret d md mc ms Q pc L (.int x :: st) h kc kn := by
  subst hp
  intro p l e R s m args below meth c D dA b lim gr H locs ls C S P hL
  exact lv_if_ne C.1 C.2.1 hd ht (fun q => kt q p l e R s m args below meth c D dA b lim gr H locs ls C S P hL) (fun q => kf q p l e R s m args below meth c D dA b lim gr H locs ls C S P hL)
theorem aw_if_lt {x : Int32} {off : Int} {tgt : Nat} (hd : decode cc pc = .ok (.ifCond .lt off, 3)) (ht : (pc : Int) + off = (tgt : Int)) (hp : pc + 3 = pc') (kt : x < 0 → AW own nm cc nL ret d md mc ms Q tgt L st h kc kn) (kf : ¬ x < 0 → AW own nm cc nL ret d md mc ms Q pc' L st h kc kn) : AW own nm cc nL ret d md mc ms Q pc L (.int x :: st) h kc kn := by
  subst hp
  intro p l e R s m args below meth c D dA b lim gr H locs ls C S P hL
  exact lv_if_lt C.1 C.2.1 hd ht (fun q => kt q p l e R s m args below meth c D dA b lim gr H locs ls C S P hL) (fun q => kf q p l e R s m args below meth c D dA b lim gr H locs ls C S P hL)
theorem aw_if_ge {x : Int32} {off : Int} {tgt : Nat} (hd : decode cc pc = .ok (.ifCond .ge off, 3)) (ht : (pc : Int) + off = (tgt : Int)) (hp : pc + 3 = pc') (kt : 0 ≤ x → AW own nm cc nL ret d md mc ms Q tgt L st h kc kn) (kf : ¬ 0 ≤ x → AW own nm cc nL ret d md mc ms Q pc' L st h kc kn) : AW own nm cc nL ret d md mc ms Q pc L (.int x :: st) h kc kn := by
  subst hp
  intro p l e R s m args below meth c D dA b lim gr H locs ls C S P hL
  exact lv_if_ge C.1 C.2.1 hd ht (fun q => kt q p l e R s m args below meth c D dA b lim gr H locs ls C S P hL) (fun q => kf q p l e R s m args below meth c D dA b lim gr H locs ls C S P hL)
theorem aw_if_gt {x : Int32} {off : Int} {tgt : Nat} (hd : decode cc pc = .ok (.ifCond .gt off, 3)) (ht : (pc : Int) + off = (tgt : Int)) (hp : pc + 3 = pc') (kt : 0 < x → AW own nm cc nL ret d md mc ms Q tgt L st h kc kn) (kf : ¬ 0 < x → AW own nm cc nL ret d md mc ms Q pc' L st h kc kn) : AW own nm cc nL ret d md mc ms Q pc L (.int x :: st) h kc kn := by
  subst hp
  intro p l e R s m args below meth c D dA b lim gr H locs ls C S P hL
  exact lv_if_gt C.1 C.2.1 hd ht (fun q => kt q p l e R s m args below meth c D dA b lim gr H locs ls C S P hL) (fun q => kf q p l e R s m args below meth c D dA b lim gr H locs ls C S P hL)
theorem aw_if_le {x : Int32} {off : Int} {tgt : Nat} (hd : decode cc pc = .ok (.ifCond .le off, 3)) (ht : (pc : Int) + off = (tgt : Int)) (hp : pc + 3 = pc') (kt : x ≤ 0 → AW own nm cc nL ret d md mc ms Q tgt L st h kc kn) (kf : ¬ x ≤ 0 → AW own nm cc nL ret d md mc ms Q pc' L st h kc kn) : AW own nm cc nL ret d md mc ms Q pc L (.int x :: st) h kc kn := by
  subst hp
  intro p l e R s m args below meth c D dA b lim gr H locs ls C S P hL
  exact lv_if_le C.1 C.2.1 hd ht (fun q => kt q p l e R s m args below meth c D dA b lim gr H locs ls C S P hL) (fun q => kf q p l e R s m args below meth c D dA b lim gr H locs ls C S P hL)
theorem aw_icmp_eq {x y : Int32} {off : Int} {tgt : Nat} (hd : decode cc pc = .ok (.if_icmp .eq off, 3)) (ht : (pc : Int) + off = (tgt : Int)) (hp : pc + 3 = pc') (kt : x = y → AW own nm cc nL ret d md mc ms Q tgt L st h kc kn) (kf : ¬ x = y → AW own nm cc nL ret d md mc ms Q pc' L st h kc kn) : AW own nm cc nL ret d md mc ms Q pc L (.int y :: .int x :: st) h kc kn := by
  subst hp
  intro p l e R s m args below meth c D dA b lim gr H locs ls C S P hL
  exact lv_icmp_eq C.1 C.2.1 hd ht (fun q => kt q p l e R s m args below meth c D dA b lim gr H locs ls C S P hL) (fun q => kf q p l e R s m args below meth c D dA b lim gr H locs ls C S P hL)
theorem aw_icmp_ne {x y : Int32} {off : Int} {tgt : Nat} (hd : decode cc pc = .ok (.if_icmp .ne off, 3)) (ht : (pc : Int) + off = (tgt : Int)) (hp : pc + 3 = pc') (kt : ¬ x = y → AW own nm cc nL ret d md mc ms Q tgt L st h kc kn) (kf : x = y → AW own nm cc nL ret d md mc ms Q pc' L st h kc kn) : AW own nm cc nL ret d md mc ms Q pc L (.int y :: .int x :: st) h kc kn := by
  subst hp
  intro p l e R s m args below meth c D dA b lim gr H locs ls C S P hL
  exact lv_icmp_ne C.1 C.2.1 hd ht (fun q => kt q p l e R s m args below meth c D dA b lim gr H locs ls C S P hL) (fun q => kf q p l e R s m args below meth c D dA b lim gr H locs ls C S P hL)
theorem aw_icmp_lt {x y : Int32} {off : Int} {tgt : Nat} (hd : decode cc pc = .ok (.if_icmp .lt off, 3)) (ht : (pc : Int) + off = (tgt : Int)) (hp : pc + 3 = pc') (kt : x < y → AW own nm cc nL ret d md mc ms Q tgt L st h kc kn) (kf : ¬ x < y → AW own nm cc nL ret d md mc ms Q pc' L st h kc kn) : AW own nm cc nL ret d md mc ms Q pc L (.int y :: .int x :: st) h kc kn := by
  subst hp
  intro p l e R s m args below meth c D dA b lim gr H locs ls C S P hL
  exact lv_icmp_lt C.1 C.2.1 hd ht (fun q => kt q p l e R s m args below meth c D dA b lim gr H locs ls C S P hL) (fun q => kf q p l e R s m args below meth c D dA b lim gr H locs ls C S P hL)
theorem aw_icmp_ge {x y : Int32} {off : Int} {tgt : Nat} (hd : decode cc pc = .ok (.if_icmp .ge off, 3)) (ht : (pc : Int) + off = (tgt : Int)) (hp : pc + 3 = pc') (kt : y ≤ x → AW own nm cc nL ret d md mc ms Q tgt L st h kc kn) (kf : ¬ y ≤ x → AW own nm cc nL ret d md mc ms Q pc' L st h kc kn) : AW own nm cc nL ret d md mc ms Q pc L (.int y :: .int x :: st) h kc kn := by
  subst hp
  intro p l e R s m args below meth c D dA b lim gr H locs ls C S P hL
  exact lv_icmp_ge C.1 C.2.1 hd ht (fun q => kt q p l e R s m args below meth c D dA b lim gr H locs ls C S P hL) (fun q => kf q p l e R s m args below meth c D dA b lim gr H locs ls C S P hL)
theorem aw_icmp_gt {x y : Int32} {off : Int} {tgt : Nat} (hd : decode cc pc = .ok (.if_icmp .gt off, 3)) (ht : (pc : Int) + off = (tgt : Int)) (hp : pc + 3 = pc') (kt : y < x → AW own nm cc nL ret d md mc ms Q tgt L st h kc kn) (kf : ¬ y < x → AW own nm cc nL ret d md mc ms Q pc' L st h kc kn) : AW own nm cc nL ret d md mc ms Q pc L (.int y :: .int x :: st) h kc kn := by
  subst hp
  intro p l e R s m args below meth c D dA b lim gr H locs ls C S P hL
  exact lv_icmp_gt C.1 C.2.1 hd ht (fun q => kt q p l e R s m args below meth c D dA b lim gr H locs ls C S P hL) (fun q => kf q p l e R s m args below meth c D dA b lim gr H locs ls C S P hL)
theorem aw_icmp_le {x y : Int32} {off : Int} {tgt : Nat} (hd : decode cc pc = .ok (.if_icmp .le off, 3)) (ht : (pc : Int) + off = (tgt : Int)) (hp : pc + 3 = pc') (kt : x ≤ y → AW own nm cc nL ret d md mc ms Q tgt L st h kc kn) (kf : ¬ x ≤ y → AW own nm cc nL ret d md mc ms Q pc' L st h kc kn) : AW own nm cc nL ret d md mc ms Q pc L (.int y :: .int x :: st) h kc kn := by
  subst hp
  intro p l e R s m args below meth c D dA b lim gr H locs ls C S P hL
  exact lv_icmp_le C.1 C.2.1 hd ht (fun q => kt q p l e R s m args below meth c D dA b lim gr H locs ls C S P hL) (fun q => kf q p l e R s m args below meth c D dA b lim gr H locs ls C S P hL)
theorem aw_goto {off : Int} {tgt : Nat} (hd : decode cc pc = .ok (.goto off, 3)) (ht : (pc : Int) + off = (tgt : Int)) (k : AW own nm cc nL ret d md mc ms Q tgt L st h kc kn) : AW own nm cc nL ret d md mc ms Q pc L st h kc kn := by
  intro p l e R s m args below meth c D dA b lim gr H locs ls C S P hL
  exact lv_goto C.1 C.2.1 hd ht (k p l e R s m args below meth c D dA b lim gr H locs ls C S P hL)
theorem aw_iload_n {i : Fin 4} {x : Int32} (hd : decode cc pc = .ok (.iload_n i, 1)) (hp : pc + 1 = pc') (hl : L[(i : Nat)]? = some (some (.int x))) (k : AW own nm cc nL ret d md mc ms Q pc' L (.int x :: st) h kc kn) : AW own nm cc nL ret d md mc ms Q pc L st h kc kn := by
  subst hp
  intro p l e R s m args below meth c D dA b lim gr H locs ls C S P hL
  exact lv_iload_n C.1 C.2.1 hd rfl (hL.at hl) (k p l e R s m args below meth c D dA b lim gr H locs ls C S P hL)
theorem aw_iload {i : Nat} {x : Int32} (hd : decode cc pc = .ok (.iload i, 2)) (hp : pc + 2 = pc') (hl : L[i]? = some (some (.int x))) (k : AW own nm cc nL ret d md mc ms Q pc' L (.int x :: st) h kc kn) : AW own nm cc nL ret d md mc ms Q pc L st h kc kn := by
  subst hp
  intro p l e R s m args below meth c D dA b lim gr H locs ls C S P hL
  exact lv_iload C.1 C.2.1 hd (hL.at hl) (k p l e R s m args below meth c D dA b lim gr H locs ls C S P hL)
theorem aw_lload_n {i : Fin 4} {x : Int64} (hd : decode cc pc = .ok (.lload_n i, 1)) (hp : pc + 1 = pc') (hl : L[(i : Nat)]? = some (some (.long x))) (k : AW own nm cc nL ret d md mc ms Q pc' L (.long x :: st) h kc kn) : AW own nm cc nL ret d md mc ms Q pc L st h kc kn := by
  subst hp
  intro p l e R s m args below meth c D dA b lim gr H locs ls C S P hL
  exact lv_lload_n C.1 C.2.1 hd rfl (hL.at hl) (k p l e R s m args below meth c D dA b lim gr H locs ls C S P hL)
theorem aw_lload {i : Nat} {x : Int64} (hd : decode cc pc = .ok (.lload i, 2)) (hp : pc + 2 = pc') (hl : L[i]? = some (some (.long x))) (k : AW own nm cc nL ret d md mc ms Q pc' L (.long x :: st) h kc kn) : AW own nm cc nL ret d md mc ms Q pc L st h kc kn := by
  subst hp
  intro p l e R s m args below meth c D dA b lim gr H locs ls C S P hL
  exact lv_lload C.1 C.2.1 hd (hL.at hl) (k p l e R s m args below meth c D dA b lim gr H locs ls C S P hL)
theorem aw_aload_n {i : Fin 4} {x : Nat} (hd : decode cc pc = .ok (.aload_n i, 1)) (hp : pc + 1 = pc') (hl : L[(i : Nat)]? = some (some (.ref x))) (k : AW own nm cc nL ret d md mc ms Q pc' L (.ref x :: st) h kc kn) : AW own nm cc nL ret d md mc ms Q pc L st h kc kn := by
  subst hp
  intro p l e R s m args below meth c D dA b lim gr H locs ls C S P hL
  exact lv_aload_n C.1 C.2.1 hd rfl (hL.at hl) (k p l e R s m args below meth c D dA b lim gr H locs ls C S P hL)
theorem aw_aload {i : Nat} {x : Nat} (hd : decode cc pc = .ok (.aload i, 2)) (hp : pc + 2 = pc') (hl : L[i]? = some (some (.ref x))) (k : AW own nm cc nL ret d md mc ms Q pc' L (.ref x :: st) h kc kn) : AW own nm cc nL ret d md mc ms Q pc L st h kc kn := by
  subst hp
  intro p l e R s m args below meth c D dA b lim gr H locs ls C S P hL
  exact lv_aload C.1 C.2.1 hd (hL.at hl) (k p l e R s m args below meth c D dA b lim gr H locs ls C S P hL)
theorem aw_clr_at {L : List (Option Value)} {i j : Nat} {u : Value} (h : (aw_clr L i)[j]? = some (some u)) : L[j]? = some (some u) ∧ ¬ (j + 1 = i ∧ u.category = 2) := by
  cases i with
  | zero => exact ⟨h, fun q => by omega⟩
  | succ i =>
    simp only [aw_clr] at h
    split at h
    · by_cases hj : j = i
      · subst hj
        simp [List.getElem?_set] at h
      · rw [List.getElem?_set_ne (Ne.symm hj)] at h
        exact ⟨h, fun q => by omega⟩
    · by_cases hj : j = i
      · subst hj
        simp [List.getElem?_set] at h
      · rw [List.getElem?_set_ne (Ne.symm hj)] at h
        exact ⟨h, fun q => by omega⟩
    · rename_i h1 h2
      refine ⟨h, fun q => ?_⟩
      obtain ⟨q1, q2⟩ := q
      have e : j = i := by omega
      subst e
      cases u with
      | long x => exact h1 x h
      | double x => exact h2 x h
      | _ => simp [Value.category] at q2
theorem aw_st1 {b i : Nat} {L : List (Option Value)} {v : Value} {lv : List (Nat × Value)} (h2 : ∀ (i : Nat) (v : Value), L[i]? = some (some v) → (i, aw_v b v) ∈ lv) : ∀ (j : Nat) (u : Value), (aw_s1 L i v)[j]? = some (some u) → (j, aw_v b u) ∈ (i, aw_v b v) :: lv.filter (fun q => !(q.1 == i) && !(q.1 + 1 == i && q.2.category == 2)) := by
  intro j u hj
  unfold aw_s1 at hj
  by_cases e : j = i
  · subst e
    rw [List.getElem?_set] at hj
    simp at hj
    rw [← hj.2]
    exact List.mem_cons_self
  · rw [List.getElem?_set_ne (Ne.symm e)] at hj
    obtain ⟨g1, g2⟩ := aw_clr_at hj
    refine List.mem_cons_of_mem _ (List.mem_filter.mpr ⟨h2 j u g1, ?_⟩)
    simp only [aw_cat, Bool.and_eq_true, Bool.not_eq_true', beq_eq_false_iff_ne, ne_eq, Bool.and_eq_false_iff]
    refine ⟨e, ?_⟩
    by_cases e2 : j + 1 = i
    · exact Or.inr (fun q => g2 ⟨e2, q⟩)
    · exact Or.inl e2
theorem aw_st2 {b i : Nat} {L : List (Option Value)} {v : Value} {lv : List (Nat × Value)} (h2 : ∀ (i : Nat) (v : Value), L[i]? = some (some v) → (i, aw_v b v) ∈ lv) : ∀ (j : Nat) (u : Value), (aw_s2 L i v)[j]? = some (some u) → (j, aw_v b u) ∈ (i, aw_v b v) :: lv.filter (fun q => !(q.1 == i) && (!(q.1 == i + 1) && !(q.1 + 1 == i && q.2.category == 2))) := by
  intro j u hj
  unfold aw_s2 at hj
  by_cases e : j = i
  · subst e
    rw [List.getElem?_set] at hj
    simp at hj
    rw [← hj.2]
    exact List.mem_cons_self
  · rw [List.getElem?_set_ne (Ne.symm e)] at hj
    by_cases e1 : j = i + 1
    · subst e1
      simp [List.getElem?_set] at hj
    · rw [List.getElem?_set_ne (Ne.symm e1)] at hj
      obtain ⟨g1, g2⟩ := aw_clr_at hj
      refine List.mem_cons_of_mem _ (List.mem_filter.mpr ⟨h2 j u g1, ?_⟩)
      simp only [aw_cat, Bool.and_eq_true, Bool.not_eq_true', beq_eq_false_iff_ne, ne_eq, Bool.and_eq_false_iff]
      refine ⟨e, e1, ?_⟩
      by_cases e2 : j + 1 = i
      · exact Or.inr (fun q => g2 ⟨e2, q⟩)
      · exact Or.inl e2
theorem aw_istore_n {i : Fin 4} {x : Int32} (hd : decode cc pc = .ok (.istore_n i, 1)) (hp : pc + 1 = pc') (hn : (i : Nat) < nL) (e : aw_s1 L i (.int x) = L') (k : AW own nm cc nL ret d md mc ms Q pc' L' st h kc kn) : AW own nm cc nL ret d md mc ms Q pc L (.int x :: st) h kc kn := by
  subst hp e
  intro p l e R s m args below meth c D dA b lim gr H locs ls C S P hL
  obtain ⟨lv, h1, h2⟩ := hL
  exact lv_istore_n C.1 C.2.1 hd rfl h1 hn rfl (fun ls' h' => k p l e R s m args below meth c D dA b lim gr H locs ls' C S P ⟨_, h', aw_st1 h2⟩)
theorem aw_istore {i : Nat} {x : Int32} (hd : decode cc pc = .ok (.istore i, 2)) (hp : pc + 2 = pc') (hn : i < nL) (e : aw_s1 L i (.int x) = L') (k : AW own nm cc nL ret d md mc ms Q pc' L' st h kc kn) : AW own nm cc nL ret d md mc ms Q pc L (.int x :: st) h kc kn := by
  subst hp e
  intro p l e R s m args below meth c D dA b lim gr H locs ls C S P hL
  obtain ⟨lv, h1, h2⟩ := hL
  exact lv_istore C.1 C.2.1 hd h1 hn rfl (fun ls' h' => k p l e R s m args below meth c D dA b lim gr H locs ls' C S P ⟨_, h', aw_st1 h2⟩)
theorem aw_lstore_n {i : Fin 4} {x : Int64} (hd : decode cc pc = .ok (.lstore_n i, 1)) (hp : pc + 1 = pc') (hn : (i : Nat) + 1 < nL) (e : aw_s2 L i (.long x) = L') (k : AW own nm cc nL ret d md mc ms Q pc' L' st h kc kn) : AW own nm cc nL ret d md mc ms Q pc L (.long x :: st) h kc kn := by
  subst hp e
  intro p l e R s m args below meth c D dA b lim gr H locs ls C S P hL
  obtain ⟨lv, h1, h2⟩ := hL
  exact lv_lstore_n C.1 C.2.1 hd rfl h1 hn rfl (fun ls' h' => k p l e R s m args below meth c D dA b lim gr H locs ls' C S P ⟨_, h', aw_st2 h2⟩)
theorem aw_lstore {i : Nat} {x : Int64} (hd : decode cc pc = .ok (.lstore i, 2)) (hp : pc + 2 = pc') (hn : i + 1 < nL) (e : aw_s2 L i (.long x) = L') (k : AW own nm cc nL ret d md mc ms Q pc' L' st h kc kn) : AW own nm cc nL ret d md mc ms Q pc L (.long x :: st) h kc kn := by
  subst hp e
  intro p l e R s m args below meth c D dA b lim gr H locs ls C S P hL
  obtain ⟨lv, h1, h2⟩ := hL
  exact lv_lstore C.1 C.2.1 hd h1 hn rfl (fun ls' h' => k p l e R s m args below meth c D dA b lim gr H locs ls' C S P ⟨_, h', aw_st2 h2⟩)
theorem aw_astore_n {i : Fin 4} {x : Nat} (hd : decode cc pc = .ok (.astore_n i, 1)) (hp : pc + 1 = pc') (hn : (i : Nat) < nL) (e : aw_s1 L i (.ref x) = L') (k : AW own nm cc nL ret d md mc ms Q pc' L' st h kc kn) : AW own nm cc nL ret d md mc ms Q pc L (.ref x :: st) h kc kn := by
  subst hp e
  intro p l e R s m args below meth c D dA b lim gr H locs ls C S P hL
  obtain ⟨lv, h1, h2⟩ := hL
  exact lv_astore_n C.1 C.2.1 hd rfl h1 hn rfl (fun ls' h' => k p l e R s m args below meth c D dA b lim gr H locs ls' C S P ⟨_, h', aw_st1 h2⟩)
theorem aw_astore {i : Nat} {x : Nat} (hd : decode cc pc = .ok (.astore i, 2)) (hp : pc + 2 = pc') (hn : i < nL) (e : aw_s1 L i (.ref x) = L') (k : AW own nm cc nL ret d md mc ms Q pc' L' st h kc kn) : AW own nm cc nL ret d md mc ms Q pc L (.ref x :: st) h kc kn := by
  subst hp e
  intro p l e R s m args below meth c D dA b lim gr H locs ls C S P hL
  obtain ⟨lv, h1, h2⟩ := hL
  exact lv_astore C.1 C.2.1 hd h1 hn rfl (fun ls' h' => k p l e R s m args below meth c D dA b lim gr H locs ls' C S P ⟨_, h', aw_st1 h2⟩)
theorem aw_iinc {i : Nat} {n : Int} {x v : Int32} (hd : decode cc pc = .ok (.iinc i n, 3)) (hp : pc + 3 = pc') (hv : Int32.ofInt n = v) (hl : L[i]? = some (some (.int x))) (hn : i < nL) (e : aw_s1 L i (.int (x + v)) = L') (k : AW own nm cc nL ret d md mc ms Q pc' L' st h kc kn) : AW own nm cc nL ret d md mc ms Q pc L st h kc kn := by
  subst hp hv e
  intro p l e R s m args below meth c D dA b lim gr H locs ls C S P hL
  obtain ⟨lv, h1, h2⟩ := hL
  obtain ⟨kk, hk⟩ := List.getElem?_of_mem (h2 i _ hl)
  exact lv_iinc C.1 C.2.1 hd h1 hk rfl hn rfl (fun ls' h' => k p l e R s m args below meth c D dA b lim gr H locs ls' C S P ⟨_, h', aw_st1 h2⟩)
theorem aw_ldc2 {index : Nat} {v : Int64} (hd : decode cc pc = .ok (.ldc2_w index, 3)) (hp : pc + 3 = pc') (hw : Cond.constantLong own index v ∈ wsAll) (k : AW own nm cc nL ret d md mc ms Q pc' L (.long v :: st) h kc kn) : AW own nm cc nL ret d md mc ms Q pc L st h kc kn := by
  subst hp
  intro p l e R s m args below meth c D dA b lim gr H locs ls C S P hL
  exact lv_ldc2 C.1 C.2.1 C.2.2.2.1 (C.2.2.2.2.1 _ hw) hd (k p l e R s m args below meth c D dA b lim gr H locs ls C S P hL)
theorem aw_ldc {index : Nat} {v : Int32} (hd : decode cc pc = .ok (.ldc index, 2)) (hp : pc + 2 = pc') (hw : Cond.constant own index v ∈ wsAll) (k : AW own nm cc nL ret d md mc ms Q pc' L (.int v :: st) h kc kn) : AW own nm cc nL ret d md mc ms Q pc L st h kc kn := by
  subst hp
  intro p l e R s m args below meth c D dA b lim gr H locs ls C S P hL
  exact lv_ldc C.1 C.2.1 C.2.2.2.1 (C.2.2.2.2.1 _ hw) hd (k p l e R s m args below meth c D dA b lim gr H locs ls C S P hL)
theorem aw_ireturn {x : Int32} (hr : ret = some .int) (hd : decode cc pc = .ok (.ireturn, 1)) (hc : kc ≤ mc) (hn : kn ≤ ms) (hq : Q (some (.int x)) h) : AW own nm cc nL ret d md mc ms Q pc L [.int x] h kc kn := by
  intro p l e R s m args below meth c D dA b lim gr H locs ls C S P hL
  refine W.widen (k := mc) (n := ms) hc hn ?_
  exact W.iret (v := x) C.1 C.2.1 (C.2.2.2.2.2.1.trans hr) (fun t ht hW => ⟨⟨some (.int x), h, rfl, hq, by rw [ht]; exact P⟩, S.F ht⟩) S.2.2 hd C.2.2.2.2.2.2.1
theorem aw_zreturn {x : Int32} {ty : FieldType} (hr : ret = some ty) (hx : narrow ty (.int x) = .int x) (hd : decode cc pc = .ok (.ireturn, 1)) (hc : kc ≤ mc) (hn : kn ≤ ms) (hq : Q (some (.int x)) h) : AW own nm cc nL ret d md mc ms Q pc L [.int x] h kc kn := by
  intro p l e R s m args below meth c D dA b lim gr H locs ls C S P hL
  refine W.widen (k := mc) (n := ms) hc hn ?_
  exact W.zret (v := x) C.1 C.2.1 (C.2.2.2.2.2.1.trans hr) hx (fun t ht hW => ⟨⟨some (.int x), h, rfl, hq, by rw [ht]; exact P⟩, S.F ht⟩) S.2.2 hd C.2.2.2.2.2.2.1
theorem aw_lreturn {x : Int64} (hr : ret = some .long) (hd : decode cc pc = .ok (.lreturn, 1)) (hc : kc ≤ mc) (hn : kn ≤ ms) (hq : Q (some (.long x)) h) : AW own nm cc nL ret d md mc ms Q pc L [.long x] h kc kn := by
  intro p l e R s m args below meth c D dA b lim gr H locs ls C S P hL
  refine W.widen (k := mc) (n := ms) hc hn ?_
  exact W.lret (v := x) C.1 C.2.1 (C.2.2.2.2.2.1.trans hr) (fun t ht hW => ⟨⟨some (.long x), h, rfl, hq, by rw [ht]; exact P⟩, S.F ht⟩) S.2.2 hd C.2.2.2.2.2.2.1
theorem aw_return (hr : ret = none) (hd : decode cc pc = .ok (.return_, 1)) (hc : kc ≤ mc) (hn : kn ≤ ms) (hq : Q none h) : AW own nm cc nL ret d md mc ms Q pc L [] h kc kn := by
  intro p l e R s m args below meth c D dA b lim gr H locs ls C S P hL
  refine W.widen (k := mc) (n := ms) hc hn ?_
  exact W.vret C.1 C.2.1 (C.2.2.2.2.2.1.trans hr) (fun t ht hW => ⟨⟨none, h, rfl, hq, by rw [ht]; exact P⟩, S.F ht⟩) S.2.2 hd C.2.2.2.2.2.2.1
theorem aw_ldcw {index : Nat} {v : Int32} (hd : decode cc pc = .ok (.ldc_w index, 3)) (hp : pc + 3 = pc') (hw : Cond.constant own index v ∈ wsAll) (k : AW own nm cc nL ret d md mc ms Q pc' L (.int v :: st) h kc kn) : AW own nm cc nL ret d md mc ms Q pc L st h kc kn := by
  subst hp
  intro p l e R s m args below meth c D dA b lim gr H locs ls C S P hL
  exact lv_ldcw C.1 C.2.1 C.2.2.2.1 (C.2.2.2.2.1 _ hw) hd (k p l e R s m args below meth c D dA b lim gr H locs ls C S P hL)
def aw_fl (own : String) (index ci k : Nat) (CC : String) (T : u_T) (N : Nat) : Prop := vwCl[ci]? = some (CC, T, N) ∧ (∀ w ∈ u_ws CC T N, w ∈ wsAll) ∧ k < N ∧ Cond.fieldLink own index (T k).1 (T k).2.1 (T k).2.2.1 ∈ wsAll
def aw_ty (T : u_T) (N : Nat) (ty0 : Nat → FieldType) : Prop := (∀ k, k < N → parseFieldDescriptor (T k).2.2.1 = some (ty0 k)) ∧ ∀ a, a < N → ∀ b, b < N → a ≠ b → (T a).2.1 ≠ (T b).2.1
theorem aw_get {N ci index k q : Nat} {CC : String} {T : u_T} {fs : List Value} {v : Value} (hd : decode cc pc = .ok (.getfield index, 3)) (hp : pc + 3 = pc') (F : aw_fl own index ci k CC T N) (he : h[q]? = some (.inr (ci, fs))) (hv : fs[k]? = some v) (kk : AW own nm cc nL ret d md mc ms Q pc' L (v :: st) h kc kn) : AW own nm cc nL ret d md mc ms Q pc L (.ref q :: st) h kc kn := by
  subst hp
  intro p l e R s m args below meth c D dA b lim gr H locs ls C S P hL
  obtain ⟨hc, hin, hk, hl⟩ := F
  exact va_get (D := D) (cl := vwCl) (ci := ci) (v := aw_v b v) (ws := [(b + q, aw_e b dA (.inr (ci, fs)))]) (tys := []) C.1 C.2.1 C.2.2.2.2.1 hin C.2.2.2.1 C.2.2.2.2.2.2.2.2.2.1.nil (P.one he) 0 rfl hc k hk (C.2.2.2.2.1 _ hl) (fun _ x => x) (by rw [List.getElem?_map, hv]; rfl) hd (kk p l e R s m args below meth c D dA b lim gr H locs ls C S P hL)
theorem aw_put {N ci index k q : Nat} {CC : String} {T : u_T} {fs : List Value} {v : Value} {ty : FieldType} {ty0 : Nat → FieldType} (hd : decode cc pc = .ok (.putfield index, 3)) (hp : pc + 3 = pc') (F : aw_fl own index ci k CC T N) (Y : aw_ty T N ty0) (hfin : (T k).2.2.2 = false) (hdsc : parseFieldDescriptor (T k).2.2.1 = some ty) (hn : ∀ b, narrow ty (aw_v b v) = aw_v b v) (hfit : ∀ b, fits ty (aw_v b v) = true) (he : h[q]? = some (.inr (ci, fs))) (hlen : k < fs.length) (hh : h.set q (.inr (ci, fs.set k v)) = h') (kk : AW own nm cc nL ret d md mc ms Q pc' L st h' kc kn) : AW own nm cc nL ret d md mc ms Q pc L (v :: .ref q :: st) h kc kn := by
  subst hp hh
  intro p l e R s m args below meth c D dA b lim gr H locs ls C S P hL
  obtain ⟨hc, hin, hk, hl⟩ := F
  obtain ⟨hty, hnm⟩ := Y
  have hts := C.2.2.2.2.1
  have hown := C.2.2.2.1
  have hK := C.2.2.2.2.2.2.2.2.2.1
  have hap := va_apart (own := own) hts hin ty0 hty hnm hK.nil hc
  obtain ⟨r, h1, cell, q1, q2, q3, q4⟩ := P.2.2 q _ he
  have hr : r = (CC, T, N) := Option.some.inj (h1.symm.trans hc)
  subst hr
  obtain ⟨hS, hfc, kC, hkC, hkind⟩ := hK.1 ci _ hc
  obtain ⟨cf, kf, fi, f, hi, hsl⟩ := hS k hk
  have hlay := hts _ (hin _ (u_in_lay hk))
  unfold u_lay at hlay
  rw [if_neg (by rw [hfin]; decide)] at hlay
  have hst := (u_facts hfc hkC (u_lays hts hin hk) hi).1
  have h6 := u_store hfc hkC hkind hlay hi hdsc (hn b) (hfit b)
  refine W.putK C.1 C.2.1 (f := f) ⟨hown, hts _ hl, ⟨_, _, _, hi⟩, hst⟩ (by rw [q2]; exact h6) q1 q3 (by rw [hsl]; exact k2_hasslot (q4 k hk)) rfl rfl hd fun H' e1 e2 e3 => ?_
  rw [hsl] at e1 ⊢
  have hql : q < h.length := (List.getElem?_eq_some_iff.mp he).1
  refine kk p l e R s m args below meth c D dA b lim gr H' _ ls C (S.put e2 e3 (P.inA hql)) (P.put hql e2 ?_ e3) hL
  show va_at D vwCl (b + q, .inr (ci, (fs.set k v).map (aw_v b))) H'
  rw [List.map_set]
  exact ⟨_, hc, t_OB.to (V := updV (vp_V (fs.map (aw_v b))) k (aw_v b v)) ⟨_, e1, q2, q3, t_set q4 hap hk _⟩ (fun j _ => vp_updV_set (by rw [List.length_map]; exact hlen) _ j)⟩
theorem aw_putF {N ci index k q : Nat} {CC : String} {T : u_T} {fs : List Value} {v : Value} {ty : FieldType} {ty0 : Nat → FieldType} (hd : decode cc pc = .ok (.putfield index, 3)) (hp : pc + 3 = pc') (F : aw_fl own index ci k CC T N) (Y : aw_ty T N ty0) (hfin : (T k).2.2.2 = true) (hini : nm = "<init>") (hdecl : (T k).1 = own) (hdsc : parseFieldDescriptor (T k).2.2.1 = some ty) (hn : ∀ b, narrow ty (aw_v b v) = aw_v b v) (hfit : ∀ b, fits ty (aw_v b v) = true) (he : h[q]? = some (.inr (ci, fs))) (hlen : k < fs.length) (hh : h.set q (.inr (ci, fs.set k v)) = h') (kk : AW own nm cc nL ret d md mc ms Q pc' L st h' kc kn) : AW own nm cc nL ret d md mc ms Q pc L (v :: .ref q :: st) h kc kn := by
  subst hp hh
  intro p l e R s m args below meth c D dA b lim gr H locs ls C S P hL
  obtain ⟨hc, hin, hk, hl⟩ := F
  obtain ⟨hty, hnm⟩ := Y
  have hts := C.2.2.2.2.1
  have hown := C.2.2.2.1
  have hK := C.2.2.2.2.2.2.2.2.2.1
  have hap := va_apart (own := own) hts hin ty0 hty hnm hK.nil hc
  obtain ⟨r, h1, cell, q1, q2, q3, q4⟩ := P.2.2 q _ he
  have hr : r = (CC, T, N) := Option.some.inj (h1.symm.trans hc)
  subst hr
  obtain ⟨hS, hfc, kC, hkC, hkind⟩ := hK.1 ci _ hc
  obtain ⟨cf, kf, fi, f, hi, hsl⟩ := hS k hk
  have hlay := hts _ (hin _ (u_in_lay hk))
  unfold u_lay at hlay
  rw [if_pos hfin] at hlay
  have hst := (u_facts hfc hkC (u_lays hts hin hk) hi).1
  have hcf : m.cls = cf := by
    obtain ⟨_, _, c', _, _, _, -, -, hf', -, -, -, hown2, -⟩ := Cond.laysFinal_spec hlay
    have e1 : c' = cf := by have := hi.symm.trans hf'; simp at this; exact this.1.symm
    rw [hdecl] at hown2
    rw [← e1]; exact Option.some.inj (hown.symm.trans hown2)
  have h6 := u_fits hfc hkC hkind (Or.inr hlay) hi hdsc (hn b) (hfit b)
  refine W.putFinK C.1 C.2.1 hown (hts _ hl) hi hst hcf (C.2.2.2.2.2.2.2.1.trans hini) (by rw [q2]; exact h6) q1 q3 (by rw [hsl]; exact k2_hasslot (q4 k hk)) rfl rfl hd fun H' e1 e2 e3 => ?_
  rw [hsl] at e1 ⊢
  have hql : q < h.length := (List.getElem?_eq_some_iff.mp he).1
  refine kk p l e R s m args below meth c D dA b lim gr H' _ ls C (S.put e2 e3 (P.inA hql)) (P.put hql e2 ?_ e3) hL
  show va_at D vwCl (b + q, .inr (ci, (fs.set k v).map (aw_v b))) H'
  rw [List.map_set]
  exact ⟨_, hc, t_OB.to (V := updV (vp_V (fs.map (aw_v b))) k (aw_v b v)) ⟨_, e1, q2, q3, t_set q4 hap hk _⟩ (fun j _ => vp_updV_set (by rw [List.length_map]; exact hlen) _ j)⟩
def aw_fp (own : String) (index ci k : Nat) (CC : String) (T : u_T) (N : Nat) (ty : FieldType) : Prop := aw_fl own index ci k CC T N ∧ (∃ ty0, aw_ty T N ty0) ∧ (T k).2.2.2 = false ∧ parseFieldDescriptor (T k).2.2.1 = some ty
theorem aw_puti {N ci index k q : Nat} {CC : String} {T : u_T} {fs : List Value} {x : Int32} (hd : decode cc pc = .ok (.putfield index, 3)) (hp : pc + 3 = pc') (X : aw_fp own index ci k CC T N .int)  (he : h[q]? = some (.inr (ci, fs))) (hlen : k < fs.length) (hh : h.set q (.inr (ci, fs.set k (.int x))) = h') (kk : AW own nm cc nL ret d md mc ms Q pc' L st h' kc kn) : AW own nm cc nL ret d md mc ms Q pc L (.int x :: .ref q :: st) h kc kn := by
  obtain ⟨F, ⟨ty0, Y⟩, hfin, hds⟩ := X
  exact aw_put hd hp F Y hfin hds (fun _ => vp_nar_int x) (fun _ => rfl) he hlen hh kk
theorem aw_putz {N ci index k q : Nat} {CC : String} {T : u_T} {fs : List Value} {x : Int32} (hd : decode cc pc = .ok (.putfield index, 3)) (hp : pc + 3 = pc') (X : aw_fp own index ci k CC T N .boolean) (g : narrow .boolean (.int x) = .int x ∧ fits .boolean (.int x) = true) (he : h[q]? = some (.inr (ci, fs))) (hlen : k < fs.length) (hh : h.set q (.inr (ci, fs.set k (.int x))) = h') (kk : AW own nm cc nL ret d md mc ms Q pc' L st h' kc kn) : AW own nm cc nL ret d md mc ms Q pc L (.int x :: .ref q :: st) h kc kn := by
  obtain ⟨F, ⟨ty0, Y⟩, hfin, hds⟩ := X
  exact aw_put hd hp F Y hfin hds (fun _ => g.1) (fun _ => g.2) he hlen hh kk
theorem aw_putj {N ci index k q : Nat} {CC : String} {T : u_T} {fs : List Value} {x : Int64} (hd : decode cc pc = .ok (.putfield index, 3)) (hp : pc + 3 = pc') (X : aw_fp own index ci k CC T N .long)  (he : h[q]? = some (.inr (ci, fs))) (hlen : k < fs.length) (hh : h.set q (.inr (ci, fs.set k (.long x))) = h') (kk : AW own nm cc nL ret d md mc ms Q pc' L st h' kc kn) : AW own nm cc nL ret d md mc ms Q pc L (.long x :: .ref q :: st) h kc kn := by
  obtain ⟨F, ⟨ty0, Y⟩, hfin, hds⟩ := X
  exact aw_put hd hp F Y hfin hds (fun _ => rfl) (fun _ => rfl) he hlen hh kk
theorem aw_iald {q t n : Nat} {f : Nat → Int32} {i : Int32} (hd : decode cc pc = .ok (.iaload, 1)) (hp : pc + 1 = pc') (ht : tyTab[t]? = some .int) (he : h[q]? = some (.inl (t, n, .inl f))) (hin : vp_in i n) (kk : AW own nm cc nL ret d md mc ms Q pc' L (.int (f i.toNatClampNeg) :: st) h kc kn) : AW own nm cc nL ret d md mc ms Q pc L (.int i :: .ref q :: st) h kc kn := by
  subst hp
  intro p l e R s m args below meth c D dA b lim gr H locs ls C S P hL
  exact va_iald C.1 C.2.1 (C.2.2.2.2.2.2.2.2.2.1.one ht) (P.one he) 0 0 rfl rfl hin hd (kk p l e R s m args below meth c D dA b lim gr H locs ls C S P hL)
theorem aw_bald {q t n : Nat} {f : Nat → Int32} {i : Int32} (hd : decode cc pc = .ok (.baload, 1)) (hp : pc + 1 = pc') (ht : tyTab[t]? = some .byte) (he : h[q]? = some (.inl (t, n, .inl f))) (hin : vp_in i n) (kk : AW own nm cc nL ret d md mc ms Q pc' L (.int (f i.toNatClampNeg) :: st) h kc kn) : AW own nm cc nL ret d md mc ms Q pc L (.int i :: .ref q :: st) h kc kn := by
  subst hp
  intro p l e R s m args below meth c D dA b lim gr H locs ls C S P hL
  exact va_bald C.1 C.2.1 (C.2.2.2.2.2.2.2.2.2.1.one ht) (P.one he) 0 0 rfl rfl hin hd (kk p l e R s m args below meth c D dA b lim gr H locs ls C S P hL)
theorem aw_lald {q t n : Nat} {f : Nat → Int64} {i : Int32} (hd : decode cc pc = .ok (.laload, 1)) (hp : pc + 1 = pc') (ht : tyTab[t]? = some .long) (he : h[q]? = some (.inl (t, n, .inr (.inl f)))) (hin : vp_in i n) (kk : AW own nm cc nL ret d md mc ms Q pc' L (.long (f i.toNatClampNeg) :: st) h kc kn) : AW own nm cc nL ret d md mc ms Q pc L (.int i :: .ref q :: st) h kc kn := by
  subst hp
  intro p l e R s m args below meth c D dA b lim gr H locs ls C S P hL
  exact va_lald C.1 C.2.1 (C.2.2.2.2.2.2.2.2.2.1.one ht) (P.one he) 0 0 rfl rfl hin hd (kk p l e R s m args below meth c D dA b lim gr H locs ls C S P hL)
theorem aw_a_len (b : Nat) (a : vp_A) : (aw_a b a).1 = a.1 := by
  obtain ⟨n, f | f | f | f | f⟩ := a <;> rfl
theorem aw_alen {q t n : Nat} {a : (Nat → Int32) ⊕ (Nat → Int64) ⊕ (Nat → UInt32) ⊕ (Nat → UInt64) ⊕ (Nat → Option Nat)} {ty : FieldType} (hd : decode cc pc = .ok (.arraylength, 1)) (hp : pc + 1 = pc') (ht : tyTab[t]? = some ty) (he : h[q]? = some (.inl (t, n, a))) (kk : AW own nm cc nL ret d md mc ms Q pc' L (.int (nI n) :: st) h kc kn) : AW own nm cc nL ret d md mc ms Q pc L (.ref q :: st) h kc kn := by
  subst hp
  intro p l e R s m args below meth c D dA b lim gr H locs ls C S P hL
  exact va_alen C.1 C.2.1 (C.2.2.2.2.2.2.2.2.2.1.one ht) (P.one he) 0 0 rfl rfl (by rw [aw_a_len]; rfl) hd (kk p l e R s m args below meth c D dA b lim gr H locs ls C S P hL)
theorem aw_iast {q t n : Nat} {f : Nat → Int32} {i : Int32} {x : Int32} (hd : decode cc pc = .ok (.iastore, 1)) (hp : pc + 1 = pc') (ht : tyTab[t]? = some .int) (he : h[q]? = some (.inl (t, n, .inl f))) (hin : vp_in i n) (hh : h.set q (.inl (t, n, .inl (upd f i.toNatClampNeg x))) = h') (kk : AW own nm cc nL ret d md mc ms Q pc' L st h' kc kn) : AW own nm cc nL ret d md mc ms Q pc L (.int x :: .int i :: .ref q :: st) h kc kn := by
  subst hp hh
  intro p l e R s m args below meth c D dA b lim gr H locs ls C S P hL
  have hK := C.2.2.2.2.2.2.2.2.2.1.one ht
  have hql : q < h.length := (List.getElem?_eq_some_iff.mp he).1
  refine W.iast C.1 C.2.1 (P.2.2 q _ he) ((hK.2 0 _ rfl).1 n (fun j => .int (f j))) (fun q => by cases q) (by show ¬ (i < 0 ∨ (arrV _ _ _).slots.size ≤ _); rw [arrV_size]; exact hin) rfl rfl hd fun H1 e1 z oq => ?_
  refine kk p l e R s m args below meth c D dA b lim gr H1 _ ls C (S.put z oq (P.inA hql)) (P.put hql z ?_ oq) hL
  show H1[b + q]? = some (vp_cell _ _)
  rw [e1]
  show some (Cell.setSlot (vp_cell _ (n, .inl f)) _ _) = some (vp_cell _ (n, .inl _))
  rw [vp_cell_i, vp_cell_i, arrV_store]
  congr 2
  funext j
  by_cases hj : j = i.toNatClampNeg
  · subst hj
    simp [updV, upd]
    try rfl
  · simp [updV, upd, hj]
theorem aw_bast {q t n : Nat} {f : Nat → Int32} {i : Int32} {x : Int32} (hd : decode cc pc = .ok (.bastore, 1)) (hp : pc + 1 = pc') (ht : tyTab[t]? = some .byte) (he : h[q]? = some (.inl (t, n, .inl f))) (hin : vp_in i n) (hh : h.set q (.inl (t, n, .inl (upd f i.toNatClampNeg (vp_nar .byte x)))) = h') (kk : AW own nm cc nL ret d md mc ms Q pc' L st h' kc kn) : AW own nm cc nL ret d md mc ms Q pc L (.int x :: .int i :: .ref q :: st) h kc kn := by
  subst hp hh
  intro p l e R s m args below meth c D dA b lim gr H locs ls C S P hL
  have hK := C.2.2.2.2.2.2.2.2.2.1.one ht
  have hql : q < h.length := (List.getElem?_eq_some_iff.mp he).1
  refine W.bast C.1 C.2.1 (P.2.2 q _ he) ((hK.2 0 _ rfl).1 n (fun j => .int (f j))) (fun q => by cases q) (by show ¬ (i < 0 ∨ (arrV _ _ _).slots.size ≤ _); rw [arrV_size]; exact hin) rfl rfl hd fun H1 e1 z oq => ?_
  refine kk p l e R s m args below meth c D dA b lim gr H1 _ ls C (S.put z oq (P.inA hql)) (P.put hql z ?_ oq) hL
  show H1[b + q]? = some (vp_cell _ _)
  rw [e1]
  show some (Cell.setSlot (vp_cell _ (n, .inl f)) _ _) = some (vp_cell _ (n, .inl _))
  rw [vp_cell_i, vp_cell_i, arrV_store]
  congr 2
  funext j
  by_cases hj : j = i.toNatClampNeg
  · subst hj
    simp [updV, upd, vp_nar]
    try rfl
  · simp [updV, upd, hj]
theorem aw_last {q t n : Nat} {f : Nat → Int64} {i : Int32} {x : Int64} (hd : decode cc pc = .ok (.lastore, 1)) (hp : pc + 1 = pc') (ht : tyTab[t]? = some .long) (he : h[q]? = some (.inl (t, n, .inr (.inl f)))) (hin : vp_in i n) (hh : h.set q (.inl (t, n, .inr (.inl (vp_updL f i.toNatClampNeg x)))) = h') (kk : AW own nm cc nL ret d md mc ms Q pc' L st h' kc kn) : AW own nm cc nL ret d md mc ms Q pc L (.long x :: .int i :: .ref q :: st) h kc kn := by
  subst hp hh
  intro p l e R s m args below meth c D dA b lim gr H locs ls C S P hL
  have hK := C.2.2.2.2.2.2.2.2.2.1.one ht
  have hql : q < h.length := (List.getElem?_eq_some_iff.mp he).1
  refine W.last C.1 C.2.1 (P.2.2 q _ he) ((hK.2 0 _ rfl).1 n (fun j => .long (f j))) (fun q => by cases q) (by show ¬ (i < 0 ∨ (arrV _ _ _).slots.size ≤ _); rw [arrV_size]; exact hin) rfl rfl hd fun H1 e1 z oq => ?_
  refine kk p l e R s m args below meth c D dA b lim gr H1 _ ls C (S.put z oq (P.inA hql)) (P.put hql z ?_ oq) hL
  show H1[b + q]? = some (vp_cell _ _)
  rw [e1]
  show some (Cell.setSlot (vp_cell _ (n, .inr (.inl f))) _ _) = some (vp_cell _ (n, .inr (.inl _)))
  rw [vp_cell_l, vp_cell_l, arrV_store]
  congr 2
  funext j
  by_cases hj : j = i.toNatClampNeg
  · subst hj
    simp [updV, vp_updL]
    try rfl
  · simp [updV, vp_updL, hj]
theorem aw_newa {atype : ArrayType} {ty : FieldType} {t N : Nat} {n : Int32} {a0 : vp_A} (hmd : md = 1) (hd : decode cc pc = .ok (.newarray atype, 2)) (hp : pc + 2 = pc') (ht : tyTab[t]? = some ty) (hty : newarray.typeOf atype = ty) (hw : Cond.arrayClass (newarray.typeOf atype) ∈ wsAll) (ha : ∀ (b : Nat) (cA : ClassId), vp_cell cA (aw_a b a0) = arrV cA N (fun _ => defaultValue ty)) (hra : ∀ (U : State) (cA : ClassId), va_RA U cA ty → U.vm.findClass ("[" ++ ty.toString) = some cA) (hn : ¬ n < 0) (hN : n.toNatClampNeg = N) (hby : N * componentBytes ty ≤ 536870912) (hc : kc + 1 ≤ mc) (hs : kn + N ≤ ms) (hh : h ++ [.inl (t, a0)] = h') {q : Nat} (hq : h.length = q) (kk : AW own nm cc nL ret d md mc ms Q pc' L (.ref q :: st) h' (kc + 1) (kn + N)) : AW own nm cc nL ret d md mc ms Q pc L (.int n :: st) h kc kn := by
  subst hp hh hq
  intro p l e R s m args below meth c D dA b lim gr H locs ls C S P hL
  have hgr : gr = true := C.2.2.2.2.2.2.2.2.2.2.2.1 hmd
  subst hty
  obtain ⟨hfr, hlo, hRc, hRs⟩ := C.2.2.2.2.2.2.2.2.1
  have hK := C.2.2.2.2.2.2.2.2.2.1
  refine va_newaK C.1 C.2.1 (C.2.2.2.2.1 _ hw) rfl hd rfl hn hN hby (by rw [hRc]; exact hc) (by rw [hRs]; exact hs) (P.1 hgr) fun H1 cA e1 z1 o1 hAr hNm => ?_
  have hcA : cA = dA t := Option.some.inj (hNm.symm.trans (hra s _ (hK.2 t _ ht).2))
  subst hcA
  have hPs := P.1 hgr
  refine kk p l e R s m args below meth c D dA b lim gr H1 locs ls C ⟨Nat.le_trans S.1 (by rw [z1, hPs]; omega), fun x g1 g2 => (o1 x (by have := S.1; omega)).trans (S.2.1 x g1 g2), S.2.2⟩ (P.push hgr (by rw [z1, hPs]) ?_ (fun q hq => o1 q (by rw [← hPs]; exact hq))) hL
  show H1[b + h.length]? = some (vp_cell _ _)
  rw [ha]
  exact e1
theorem aw_new {N ci index : Nat} {CC : String} {T : u_T} {fs : List Value} {ty0 : Nat → FieldType} (hmd : md = 1) (hd : decode cc pc = .ok (.new index, 3)) (hp : pc + 3 = pc') (hc : vwCl[ci]? = some (CC, T, N)) (hin : ∀ w ∈ u_ws CC T N, w ∈ wsAll) (Y : aw_ty T N ty0) (hcl : Cond.classLink own index CC ∈ wsAll) (hins : Cond.instantiable CC N ∈ wsAll) (hini : Cond.initialized CC ∈ wsAll) (hfs : ∀ (b j : Nat), j < N → defaultValue (ty0 j) = vp_V (fs.map (aw_v b)) j) (hc1 : kc + 1 ≤ mc) (hs1 : kn + N ≤ ms) (hh : h ++ [.inr (ci, fs)] = h') {q : Nat} (hq : h.length = q) (kk : AW own nm cc nL ret d md mc ms Q pc' L (.ref q :: st) h' (kc + 1) (kn + N)) : AW own nm cc nL ret d md mc ms Q pc L st h kc kn := by
  subst hp hh hq
  intro p l e R s m args below meth c D dA b lim gr H locs ls C S P hL
  have hgr : gr = true := C.2.2.2.2.2.2.2.2.2.2.2.1 hmd
  have hPs := P.1 hgr
  obtain ⟨hfr, hlo, hRc, hRs⟩ := C.2.2.2.2.2.2.2.2.1
  have hts := C.2.2.2.2.1
  have hK := C.2.2.2.2.2.2.2.2.2.1
  have hKn := hK.1 ci _ hc
  refine W.newcK C.1 C.2.1 C.2.2.2.1 (hts _ hcl) (hts _ hins) (hts _ hini) rfl hd (by rw [hRc]; exact hc1) (by rw [hRs]; exact hs1) hKn.2.1 hPs fun H1 kC hkC e1 z1 o1 => ?_
  refine kk p l e R s m args below meth c D dA b lim gr H1 locs ls C ⟨Nat.le_trans S.1 (by rw [z1, hPs]; omega), fun x g1 g2 => (o1 x (by have := S.1; omega)).trans (S.2.1 x g1 g2), S.2.2⟩ (P.push hgr (by rw [z1, hPs]) ?_ (fun q hq => o1 q (by rw [← hPs]; exact hq))) hL
  exact ⟨_, hc, (u_born ty0 hts hin hKn hkC e1 Y.1).to (hfs b)⟩
theorem aw_objInit {index q : Nat} (hd : decode cc pc = .ok (.invokespecial index, 3)) (hp : pc + 3 = pc') (hl : Cond.methodLink own index Lib.objectInit ∈ wsAll) (hi : Cond.instanceMethod Lib.objectInit ∈ wsAll) (hcw : Cond.code Lib.objectInit ⟨#[0xb1]⟩ 1 none ∈ wsAll) (hfr : 1 ≤ d) (hst : (st.map fun v => v.category).sum ≤ 8) (kk : AW own nm cc nL ret d md mc ms Q pc' L st h kc kn) : AW own nm cc nL ret d md mc ms Q pc L (.ref q :: st) h kc kn := by
  subst hp
  intro p l e R s m args below meth c D dA b lim gr H locs ls C S P hL
  obtain ⟨lv, g1, g2⟩ := id hL
  have hts := C.2.2.2.2.1
  have hcats : ((st.map (aw_v b)).map fun v => v.category).sum ≤ 8 := by
    rw [List.map_map]
    have : ((fun v : Value => v.category) ∘ aw_v b) = fun v => v.category := funext (fun v => aw_cat b v)
    rw [this]; exact hst
  refine W.objInit C.1 C.2.1 C.2.2.2.1 (hts _ hl) (hts _ hi) (hts _ hcw) rfl (by rw [C.2.2.1]; exact g1.1) rfl hd (Nat.le_trans hfr C.2.2.2.2.2.2.2.2.1.1) (by have := C.2.2.2.2.2.2.2.2.1.2.1; show 2 * 0 + _ + 12 ≤ _; omega) ?_
  exact kk p l e R s m args below meth c D dA b lim gr H locs ls C S P hL
theorem aw_good : GoodIn wsAll wsAll := fun w hw => ⟨hw, good_of_word (List.all_eq_true.mp wsAll_good w hw)⟩
theorem aw_goodC {y : MethodName} {cy : ByteArray} {nLy : Nat} {rt : Option FieldType} (hcw : Cond.code y cy nLy rt ∈ wsAll) : GoodIn wsAll (Cond.code y cy nLy rt :: wsAll) := by
  intro w hw
  rcases List.mem_cons.mp hw with rfl | hw
  · exact aw_good _ hcw
  · exact aw_good _ hw
theorem aw_cats (b : Nat) (st : List Value) : ((st.map (aw_v b)).map fun v => v.category).sum = (st.map fun v => v.category).sum := by
  rw [List.map_map]
  have e : ((fun v : Value => v.category) ∘ aw_v b) = fun v => v.category := funext (fun v => aw_cat b v)
  rw [e]
theorem aw_blind {D : va_G} {dA : Nat → ClassId} {b lim : Nat} {gr : Bool} {h : aw_H} {av : List Value} : FrameBlind (va_Pc (av.map (aw_v b)) (fun U => aw_P D dA b lim gr h U.heap ∧ aw_K D dA U ∧ aw_N U)) := by
  intro a U g mk q
  obtain ⟨q0, qP, qK, qN⟩ := q
  exact ⟨q0, qP, aw_K.moved (u := U) (U := U.calling g mk a) (Vm.Alike.refl U.vm) qK, aw_N.same (u := U) (U := U.calling g mk a) rfl qN⟩
/- behind a call -/
theorem aw_back {mc' ms' : Nat} {Q' : Option Value → aw_H → Prop} {a : Array Value} {st0 : List Value} {p : Program} {l : Launch} {e : Env} {R : Room} {s : State} {m : MethodId} {args : Array Value} {below : List Frame} {meth : Method} {c : Code} {D : va_G} {dA : Nat → ClassId} {b lim : Nat} {gr : Bool} {H : Heap} {locs : List Loc} {ls : Array Slot}
    (hr : va_Run p l e R s m args below meth c H locs kc kn mc' ms' (F0 m pc ls st0) (st.map (aw_v b)) (aw_Qc D dA b lim gr Q' a) (aw_A b lim gr))
    (C : aw_C own nm cc nL ret d md mc ms p R s m args meth c D dA b gr) (S : va_S (aw_A b lim gr) s.heap H locs) (P : aw_P D dA b lim gr h H) (hL : aw_L b L nL ls)
    (kk : ∀ (v : Option Value) (h' : aw_H), Q' v h' → AW own nm cc nL ret d md mc ms Q (pc + 3) L (v.toList ++ st) h' (kc + mc') (kn + ms')) : W p l e R s m args below meth c H locs kc kn (MQ below (aw_Qc D dA b lim gr Q) args s mc ms (aw_A b lim gr)) (F0 m pc ls st0) := by
  intro T hT X
  obtain ⟨v, st₀, t, T', Lc, h0, X', hLc, e1, e2, ⟨⟨v0, h', hv, hq, hP'⟩, hz, hk⟩, stp⟩ := hr T hT X
  rw [h0] at hz hk
  have hS' : va_S (aw_A b lim gr) s.heap T'.heap (locs ++ Lc) := by
    refine ⟨Nat.le_trans S.1 (by rw [e1]; exact hz), fun q g1 g2 => ?_, fun q hq' => ?_⟩
    · rw [e1, hk q (Nat.lt_of_lt_of_le g1 S.1) g2]
      exact S.2.1 q g1 g2
    · rcases List.mem_append.mp hq' with g | g
      · exact S.2.2 q g
      · exact hLc q g
  have hv' : v = v0.map (aw_v b) := by cases hv; rfl
  obtain ⟨t2, a1, b1⟩ := kk v0 h' hq p l e R s m args below meth c D dA b lim gr T'.heap (locs ++ Lc) ls C hS' (by rw [e1]; exact hP') hL T' rfl X'
  refine ⟨t2, stp t2 ?_, b1⟩
  rw [hv']
  cases v0 <;> exact a1
/- the words of a call: static, virtual, <init>; a nest mate's static -/
def aw_mok (y : MethodName) (n : Nat) : Prop := y.cls ≠ "java/lang/invoke/MethodHandle" ∧ y.cls ≠ "java/lang/invoke/VarHandle" ∧ (parseMethodDescriptor y.desc).map (fun d => d.parameters.length) = some n
def aw_wS (own : String) (index : Nat) (y : MethodName) (cy : ByteArray) (nLy : Nat) (rt : Option FieldType) (n : Nat) : Prop := Cond.code y cy nLy rt ∈ wsAll ∧ Cond.initialized y.cls ∈ wsAll ∧ Cond.methodLink own index y ∈ wsAll ∧ Cond.static y ∈ wsAll ∧ aw_mok y n ∧ nLy ≤ 20
def aw_wN (own : String) (index : Nat) (y : MethodName) (cy : ByteArray) (nLy : Nat) (rt : Option FieldType) (n : Nat) (host : String) : Prop := Cond.code y cy nLy rt ∈ wsAll ∧ Cond.initialized y.cls ∈ wsAll ∧ (own, index, y, host) ∈ nwM ∧ Cond.static y ∈ wsAll ∧ aw_mok y n ∧ nLy ≤ 20
def aw_wV (own : String) (index : Nat) (y : MethodName) (cy : ByteArray) (nLy : Nat) (rt : Option FieldType) (n ci : Nat) (CC : String) (T : u_T) (N : Nat) : Prop := Cond.code y cy nLy rt ∈ wsAll ∧ Cond.initialized y.cls ∈ wsAll ∧ Cond.methodLink own index y ∈ wsAll ∧ Cond.instanceMethod y ∈ wsAll ∧ Cond.selects CC y y ∈ wsAll ∧ vwCl[ci]? = some (CC, T, N) ∧ aw_mok y n ∧ nLy ≤ 20
def aw_wI (own : String) (index : Nat) (y : MethodName) (cy : ByteArray) (nLy : Nat) (n : Nat) : Prop := Cond.code y cy nLy none ∈ wsAll ∧ Cond.initialized y.cls ∈ wsAll ∧ Cond.methodLink own index y ∈ wsAll ∧ Cond.instanceMethod y ∈ wsAll ∧ y.name = "<init>" ∧ aw_mok y n ∧ nLy ≤ 20
theorem aw_callS {y : MethodName} {cy : ByteArray} {nLy d' md' mc' ms' index n : Nat} {av : List Value} {Q' : Option Value → aw_H → Prop} {rt : Option FieldType} (hd : decode cc pc = .ok (.invokestatic index, 3)) (hp : pc + 3 = pc') (X : aw_wS own index y cy nLy rt n) (hM : AM y cy nLy rt d' md' mc' ms' av h Q') (hmd : md' = 0 ∨ md' = md) (hn : av.length = n) (hR : d' + 1 ≤ d) (hf : kc + mc' ≤ mc ∧ kn + ms' ≤ ms) (hst : (st.map fun v => v.category).sum ≤ 8) (kk : ∀ (v : Option Value) (h' : aw_H), Q' v h' → AW own nm cc nL ret d md mc ms Q pc' L (v.toList ++ st) h' (kc + mc') (kn + ms')) : AW own nm cc nL ret d md mc ms Q pc L (av.reverse ++ st) h kc kn := by
  subst hp
  intro p l e R s m args below meth c D dA b lim gr H locs ls C S P hL
  obtain ⟨hcw, hini, hlk, hsta, hy, hnl⟩ := X
  have hts := C.2.2.2.2.1
  obtain ⟨hfr, hlo, hRc, hRs⟩ := C.2.2.2.2.2.2.2.2.1
  obtain ⟨lv, g1, g2⟩ := id hL
  refine aw_back (va_runS (g := F0 m pc ls ((av.reverse ++ st).map (aw_v b))) (As := av.map (aw_v b)) (Ts := wsAll) ⟨C.1, C.2.1, C.2.2.1, C.2.2.2.1, hts⟩ (hM l D dA b lim gr (aw_md_use hmd C.2.2.2.2.2.2.2.2.2.2.2)) ⟨callB_of n hts (aw_goodC hcw) rfl rfl rfl (hts _ hini) (hts _ hlk) hy ⟨by show d' + 1 ≤ _; omega, by show 8 + (nLy + 11) + 40 * d' ≤ _; omega⟩, hts _ hsta⟩ ⟨aw_blind, fun U hU hW => ⟨rfl, by rw [hU]; exact P, C.2.2.2.2.2.2.2.2.2.1.moved hW.alike, C.2.2.2.2.2.2.2.2.2.2.1.warm hW⟩⟩ rfl (by rw [List.length_map]; exact hn) g1.1 (by show (av.reverse ++ st).map (aw_v b) = _; rw [List.map_append, List.map_reverse]) (by show 2 * 0 + _ ≤ _; rw [aw_cats]; omega) hd ⟨by rw [hRc]; exact hf.1, by rw [hRs]; exact hf.2⟩) C S P hL kk
theorem aw_callN {y : MethodName} {cy : ByteArray} {nLy d' md' mc' ms' index n : Nat} {av : List Value} {Q' : Option Value → aw_H → Prop} {rt : Option FieldType} (hd : decode cc pc = .ok (.invokestatic index, 3)) (hp : pc + 3 = pc') {host : String} (X : aw_wN own index y cy nLy rt n host) (hM : AM y cy nLy rt d' md' mc' ms' av h Q') (hmd : md' = 0 ∨ md' = md) (hn : av.length = n) (hR : d' + 1 ≤ d) (hf : kc + mc' ≤ mc ∧ kn + ms' ≤ ms) (hst : (st.map fun v => v.category).sum ≤ 8) (kk : ∀ (v : Option Value) (h' : aw_H), Q' v h' → AW own nm cc nL ret d md mc ms Q pc' L (v.toList ++ st) h' (kc + mc') (kn + ms')) : AW own nm cc nL ret d md mc ms Q pc L (av.reverse ++ st) h kc kn := by
  subst hp
  intro p l e R s m args below meth c D dA b lim gr H locs ls C S P hL
  obtain ⟨hcw, hini, hlk, hsta, hy, hnl⟩ := X
  have hts := C.2.2.2.2.1
  obtain ⟨hfr, hlo, hRc, hRs⟩ := C.2.2.2.2.2.2.2.2.1
  obtain ⟨lv, g1, g2⟩ := id hL
  refine aw_back (va_runSN (g := F0 m pc ls ((av.reverse ++ st).map (aw_v b))) (As := av.map (aw_v b)) (Ts := wsAll) ⟨C.1, C.2.1, C.2.2.1, C.2.2.2.1, hts⟩ (hM l D dA b lim gr (aw_md_use hmd C.2.2.2.2.2.2.2.2.2.2.2)) ⟨va_cnB n hts (aw_goodC hcw) rfl rfl rfl (C.2.2.2.2.2.2.2.2.2.2.1 _ hlk) (hts _ hini) hy ⟨by show d' + 1 ≤ _; omega, by show 8 + (nLy + 11) + 40 * d' ≤ _; omega⟩, hts _ hsta, trivial⟩ ⟨aw_blind, fun U hU hW => ⟨rfl, by rw [hU]; exact P, C.2.2.2.2.2.2.2.2.2.1.moved hW.alike, C.2.2.2.2.2.2.2.2.2.2.1.warm hW⟩⟩ rfl (by rw [List.length_map]; exact hn) g1.1 (by show (av.reverse ++ st).map (aw_v b) = _; rw [List.map_append, List.map_reverse]) (by show 2 * 0 + _ ≤ _; rw [aw_cats]; omega) hd ⟨by rw [hRc]; exact hf.1, by rw [hRs]; exact hf.2⟩) C S P hL kk
theorem aw_callV {y : MethodName} {cy : ByteArray} {nLy d' md' mc' ms' index n : Nat} {av : List Value} {Q' : Option Value → aw_H → Prop} {rt : Option FieldType} {CC : String} {T : u_T} {N ci q : Nat} {fs : List Value} (hd : decode cc pc = .ok (.invokevirtual index, 3)) (hp : pc + 3 = pc') (X : aw_wV own index y cy nLy rt n ci CC T N) (he : h[q]? = some (.inr (ci, fs))) (hM : AM y cy nLy rt d' md' mc' ms' (.ref q :: av) h Q') (hmd : md' = 0 ∨ md' = md) (hn : av.length = n) (hR : d' + 1 ≤ d) (hf : kc + mc' ≤ mc ∧ kn + ms' ≤ ms) (hst : (st.map fun v => v.category).sum ≤ 8) (kk : ∀ (v : Option Value) (h' : aw_H), Q' v h' → AW own nm cc nL ret d md mc ms Q pc' L (v.toList ++ st) h' (kc + mc') (kn + ms')) : AW own nm cc nL ret d md mc ms Q pc L (av.reverse ++ .ref q :: st) h kc kn := by
  subst hp
  intro p l e R s m args below meth c D dA b lim gr H locs ls C S P hL
  obtain ⟨hcw, hini, hlk, hins, hsel, hc, hy, hnl⟩ := X
  have hts := C.2.2.2.2.1
  obtain ⟨hfr, hlo, hRc, hRs⟩ := C.2.2.2.2.2.2.2.2.1
  obtain ⟨lv, g1, g2⟩ := id hL
  refine aw_back (va_runV (g := F0 m pc ls ((av.reverse ++ .ref q :: st).map (aw_v b))) (b := b + q) (C := CC) (As := av.map (aw_v b)) (Ts := wsAll) ⟨C.1, C.2.1, C.2.2.1, C.2.2.2.1, hts⟩ (hM l D dA b lim gr (aw_md_use hmd C.2.2.2.2.2.2.2.2.2.2.2)) ⟨callB_of n hts (aw_goodC hcw) rfl rfl rfl (hts _ hini) (hts _ hlk) hy ⟨by show d' + 1 ≤ _; omega, by show 8 + (nLy + 11) + 40 * d' ≤ _; omega⟩, hts _ hins, hts _ hsel⟩ ⟨aw_blind, va_recv C.2.2.2.2.2.2.2.2.2.1.nil (P.one he) hc (q0 := 0) rfl, fun U hU hW => ⟨rfl, by rw [hU]; exact P, C.2.2.2.2.2.2.2.2.2.1.moved hW.alike, C.2.2.2.2.2.2.2.2.2.2.1.warm hW⟩⟩ rfl (by rw [List.length_map]; exact hn) g1.1 (by show (av.reverse ++ .ref q :: st).map (aw_v b) = _; rw [List.map_append, List.map_reverse]; rfl) (by show 2 * 0 + _ ≤ _; rw [aw_cats]; omega) hd ⟨by rw [hRc]; exact hf.1, by rw [hRs]; exact hf.2⟩) C S P hL kk
theorem aw_callI {y : MethodName} {cy : ByteArray} {nLy d' md' mc' ms' index n : Nat} {av : List Value} {Q' : Option Value → aw_H → Prop} {q : Nat} (hd : decode cc pc = .ok (.invokespecial index, 3)) (hp : pc + 3 = pc') (X : aw_wI own index y cy nLy n) (hM : AM y cy nLy none d' md' mc' ms' (.ref q :: av) h Q') (hmd : md' = 0 ∨ md' = md) (hn : av.length = n) (hR : d' + 1 ≤ d) (hf : kc + mc' ≤ mc ∧ kn + ms' ≤ ms) (hst : (st.map fun v => v.category).sum ≤ 8) (kk : ∀ (v : Option Value) (h' : aw_H), Q' v h' → AW own nm cc nL ret d md mc ms Q pc' L (v.toList ++ st) h' (kc + mc') (kn + ms')) : AW own nm cc nL ret d md mc ms Q pc L (av.reverse ++ .ref q :: st) h kc kn := by
  subst hp
  intro p l e R s m args below meth c D dA b lim gr H locs ls C S P hL
  obtain ⟨hcw, hini, hlk, hins, hy1, hy, hnl⟩ := X
  have hts := C.2.2.2.2.1
  obtain ⟨hfr, hlo, hRc, hRs⟩ := C.2.2.2.2.2.2.2.2.1
  obtain ⟨lv, g1, g2⟩ := id hL
  refine aw_back (va_runI (g := F0 m pc ls ((av.reverse ++ .ref q :: st).map (aw_v b))) (b := b + q) (As := av.map (aw_v b)) (Ts := wsAll) ⟨C.1, C.2.1, C.2.2.1, C.2.2.2.1, hts⟩ (hM l D dA b lim gr (aw_md_use hmd C.2.2.2.2.2.2.2.2.2.2.2)) ⟨callB_of n hts (aw_goodC hcw) rfl rfl rfl (hts _ hini) (hts _ hlk) hy ⟨by show d' + 1 ≤ _; omega, by show 8 + (nLy + 11) + 40 * d' ≤ _; omega⟩, hy1, hts _ hins⟩ ⟨aw_blind, fun U hU hW => ⟨rfl, by rw [hU]; exact P, C.2.2.2.2.2.2.2.2.2.1.moved hW.alike, C.2.2.2.2.2.2.2.2.2.2.1.warm hW⟩⟩ rfl (by rw [List.length_map]; exact hn) g1.1 (by show (av.reverse ++ .ref q :: st).map (aw_v b) = _; rw [List.map_append, List.map_reverse]; rfl) (by show 2 * 0 + _ ≤ _; rw [aw_cats]; omega) hd ⟨by rw [hRc]; exact hf.1, by rw [hRs]; exact hf.2⟩) C S P hL kk
def aw_is (v0 : Option Value) (h1 : aw_H) : Option Value → aw_H → Prop := fun v h => v = v0 ∧ h = h1
theorem aw_callSv {y : MethodName} {cy : ByteArray} {nLy d' md' index n : Nat} {av : List Value} {v : Value} {h1 : aw_H} {rt : Option FieldType} (hd : decode cc pc = .ok (.invokestatic index, 3)) (hp : pc + 3 = pc') (X : aw_wS own index y cy nLy rt n) (hM : AM y cy nLy rt d' md' 0 0 (av) h (aw_is (some v) h1)) (hmd : md' = 0 ∨ md' = md) (hn : av.length = n) (hR : d' + 1 ≤ d) (hst : (st.map fun v => v.category).sum ≤ 8) (hkc : kc ≤ mc ∧ kn ≤ ms) (kk : AW own nm cc nL ret d md mc ms Q pc' L (v :: st) h1 kc kn) : AW own nm cc nL ret d md mc ms Q pc L (av.reverse ++ st) h kc kn := by
  refine aw_callS hd hp X hM hmd hn hR hkc hst ?_
  rintro _ _ ⟨rfl, rfl⟩
  exact kk
theorem aw_callSn {y : MethodName} {cy : ByteArray} {nLy d' md' index n : Nat} {av : List Value}  {h1 : aw_H} {rt : Option FieldType} (hd : decode cc pc = .ok (.invokestatic index, 3)) (hp : pc + 3 = pc') (X : aw_wS own index y cy nLy rt n) (hM : AM y cy nLy rt d' md' 0 0 (av) h (aw_is (none) h1)) (hmd : md' = 0 ∨ md' = md) (hn : av.length = n) (hR : d' + 1 ≤ d) (hst : (st.map fun v => v.category).sum ≤ 8) (hkc : kc ≤ mc ∧ kn ≤ ms) (kk : AW own nm cc nL ret d md mc ms Q pc' L st h1 kc kn) : AW own nm cc nL ret d md mc ms Q pc L (av.reverse ++ st) h kc kn := by
  refine aw_callS hd hp X hM hmd hn hR hkc hst ?_
  rintro _ _ ⟨rfl, rfl⟩
  exact kk
theorem aw_callNv {y : MethodName} {cy : ByteArray} {nLy d' md' index n : Nat} {av : List Value} {v : Value} {h1 : aw_H} {rt : Option FieldType} (hd : decode cc pc = .ok (.invokestatic index, 3)) (hp : pc + 3 = pc') {host : String} (X : aw_wN own index y cy nLy rt n host) (hM : AM y cy nLy rt d' md' 0 0 (av) h (aw_is (some v) h1)) (hmd : md' = 0 ∨ md' = md) (hn : av.length = n) (hR : d' + 1 ≤ d) (hst : (st.map fun v => v.category).sum ≤ 8) (hkc : kc ≤ mc ∧ kn ≤ ms) (kk : AW own nm cc nL ret d md mc ms Q pc' L (v :: st) h1 kc kn) : AW own nm cc nL ret d md mc ms Q pc L (av.reverse ++ st) h kc kn := by
  refine aw_callN hd hp X hM hmd hn hR hkc hst ?_
  rintro _ _ ⟨rfl, rfl⟩
  exact kk
theorem aw_callNn {y : MethodName} {cy : ByteArray} {nLy d' md' index n : Nat} {av : List Value}  {h1 : aw_H} {rt : Option FieldType} (hd : decode cc pc = .ok (.invokestatic index, 3)) (hp : pc + 3 = pc') {host : String} (X : aw_wN own index y cy nLy rt n host) (hM : AM y cy nLy rt d' md' 0 0 (av) h (aw_is (none) h1)) (hmd : md' = 0 ∨ md' = md) (hn : av.length = n) (hR : d' + 1 ≤ d) (hst : (st.map fun v => v.category).sum ≤ 8) (hkc : kc ≤ mc ∧ kn ≤ ms) (kk : AW own nm cc nL ret d md mc ms Q pc' L st h1 kc kn) : AW own nm cc nL ret d md mc ms Q pc L (av.reverse ++ st) h kc kn := by
  refine aw_callN hd hp X hM hmd hn hR hkc hst ?_
  rintro _ _ ⟨rfl, rfl⟩
  exact kk
theorem aw_callVv {y : MethodName} {cy : ByteArray} {nLy d' md' index n : Nat} {av : List Value} {v : Value} {h1 : aw_H} {rt : Option FieldType} (hd : decode cc pc = .ok (.invokevirtual index, 3)) (hp : pc + 3 = pc') {CC : String} {T : u_T} {N ci q : Nat} {fs : List Value} (X : aw_wV own index y cy nLy rt n ci CC T N) (he : h[q]? = some (.inr (ci, fs))) (hM : AM y cy nLy rt d' md' 0 0 (.ref q :: av) h (aw_is (some v) h1)) (hmd : md' = 0 ∨ md' = md) (hn : av.length = n) (hR : d' + 1 ≤ d) (hst : (st.map fun v => v.category).sum ≤ 8) (hkc : kc ≤ mc ∧ kn ≤ ms) (kk : AW own nm cc nL ret d md mc ms Q pc' L (v :: st) h1 kc kn) : AW own nm cc nL ret d md mc ms Q pc L (av.reverse ++ .ref q :: st) h kc kn := by
  refine aw_callV hd hp X he hM hmd hn hR hkc hst ?_
  rintro _ _ ⟨rfl, rfl⟩
  exact kk
theorem aw_callVn {y : MethodName} {cy : ByteArray} {nLy d' md' index n : Nat} {av : List Value}  {h1 : aw_H} {rt : Option FieldType} (hd : decode cc pc = .ok (.invokevirtual index, 3)) (hp : pc + 3 = pc') {CC : String} {T : u_T} {N ci q : Nat} {fs : List Value} (X : aw_wV own index y cy nLy rt n ci CC T N) (he : h[q]? = some (.inr (ci, fs))) (hM : AM y cy nLy rt d' md' 0 0 (.ref q :: av) h (aw_is (none) h1)) (hmd : md' = 0 ∨ md' = md) (hn : av.length = n) (hR : d' + 1 ≤ d) (hst : (st.map fun v => v.category).sum ≤ 8) (hkc : kc ≤ mc ∧ kn ≤ ms) (kk : AW own nm cc nL ret d md mc ms Q pc' L st h1 kc kn) : AW own nm cc nL ret d md mc ms Q pc L (av.reverse ++ .ref q :: st) h kc kn := by
  refine aw_callV hd hp X he hM hmd hn hR hkc hst ?_
  rintro _ _ ⟨rfl, rfl⟩
  exact kk
theorem aw_mmax {index : Nat} {x y : Int32} (hd : decode cc pc = .ok (.invokestatic index, 3)) (hp : pc + 3 = pc') (X : Cond.methodLink own index Lib.Math.max.name ∈ wsAll ∧ Cond.static Lib.Math.max.name ∈ wsAll ∧ Cond.initialized "java/lang/Math" ∈ wsAll ∧ Cond.code Lib.Math.max.name Lib.Math.max.code 2 (some .int) ∈ wsAll) (hfr : 1 ≤ d) (hst : (st.map fun v => v.category).sum ≤ 8) (hc : kc ≤ mc) (hn : kn ≤ ms) (k : AW own nm cc nL ret d md mc ms Q pc' L (.int (if x < y then y else x) :: st) h kc kn) : AW own nm cc nL ret d md mc ms Q pc L (.int y :: .int x :: st) h kc kn := by
  subst hp
  intro p l e R s m args below meth c D dA b lim gr H locs ls C S P hL
  obtain ⟨hlk, hsta, hini, hcw⟩ := X
  have hts := C.2.2.2.2.1
  obtain ⟨hfr', hlo, hRc, hRs⟩ := C.2.2.2.2.2.2.2.2.1
  obtain ⟨lv, g1, g2⟩ := id hL
  exact va_mmax C.1 C.2.1 (C.2.2.1.trans g1.1.symm) C.2.2.2.1 (hts _ hlk) (hts _ hsta) (hts _ hini) (hts _ hcw) (Nat.le_trans hfr hfr') (by rw [aw_cats]; omega) (by rw [hRc]; exact hc) (by rw [hRs]; exact hn) hd (k p l e R s m args below meth c D dA b lim gr H locs ls C S P hL)
theorem aw_mmin {index : Nat} {x y : Int32} (hd : decode cc pc = .ok (.invokestatic index, 3)) (hp : pc + 3 = pc') (X : Cond.methodLink own index Lib.Math.min.name ∈ wsAll ∧ Cond.static Lib.Math.min.name ∈ wsAll ∧ Cond.initialized "java/lang/Math" ∈ wsAll ∧ Cond.code Lib.Math.min.name Lib.Math.min.code 2 (some .int) ∈ wsAll) (hfr : 1 ≤ d) (hst : (st.map fun v => v.category).sum ≤ 8) (hc : kc ≤ mc) (hn : kn ≤ ms) (k : AW own nm cc nL ret d md mc ms Q pc' L (.int (if y < x then y else x) :: st) h kc kn) : AW own nm cc nL ret d md mc ms Q pc L (.int y :: .int x :: st) h kc kn := by
  subst hp
  intro p l e R s m args below meth c D dA b lim gr H locs ls C S P hL
  obtain ⟨hlk, hsta, hini, hcw⟩ := X
  have hts := C.2.2.2.2.1
  obtain ⟨hfr', hlo, hRc, hRs⟩ := C.2.2.2.2.2.2.2.2.1
  obtain ⟨lv, g1, g2⟩ := id hL
  exact va_mmin C.1 C.2.1 (C.2.2.1.trans g1.1.symm) C.2.2.2.1 (hts _ hlk) (hts _ hsta) (hts _ hini) (hts _ hcw) (Nat.le_trans hfr hfr') (by rw [aw_cats]; omega) (by rw [hRc]; exact hc) (by rw [hRs]; exact hn) hd (k p l e R s m args below meth c D dA b lim gr H locs ls C S P hL)
theorem aw_mmaxl {index : Nat} {x y : Int64} (hd : decode cc pc = .ok (.invokestatic index, 3)) (hp : pc + 3 = pc') (X : Cond.methodLink own index Lib.MathLoose.max_long.x ∈ wsAll ∧ Cond.static Lib.MathLoose.max_long.x ∈ wsAll ∧ Cond.initialized "java/lang/Math" ∈ wsAll ∧ Cond.code Lib.MathLoose.max_long.x Lib.MathLoose.max_long.code 4 (some .long) ∈ wsAll) (hfr : 1 ≤ d) (hst : (st.map fun v => v.category).sum ≤ 8) (hc : kc ≤ mc) (hn : kn ≤ ms) (k : AW own nm cc nL ret d md mc ms Q pc' L (.long (if y < x then x else y) :: st) h kc kn) : AW own nm cc nL ret d md mc ms Q pc L (.long y :: .long x :: st) h kc kn := by
  subst hp
  intro p l e R s m args below meth c D dA b lim gr H locs ls C S P hL
  obtain ⟨hlk, hsta, hini, hcw⟩ := X
  have hts := C.2.2.2.2.1
  obtain ⟨hfr', hlo, hRc, hRs⟩ := C.2.2.2.2.2.2.2.2.1
  obtain ⟨lv, g1, g2⟩ := id hL
  exact va_mmax_long C.1 C.2.1 (C.2.2.1.trans g1.1.symm) C.2.2.2.1 (hts _ hlk) (hts _ hsta) (hts _ hini) (hts _ hcw) (Nat.le_trans hfr hfr') (by rw [aw_cats]; omega) (by rw [hRc]; exact hc) (by rw [hRs]; exact hn) hd (k p l e R s m args below meth c D dA b lim gr H locs ls C S P hL)
theorem aw_mabsl {index : Nat} {x : Int64} (hd : decode cc pc = .ok (.invokestatic index, 3)) (hp : pc + 3 = pc') (X : Cond.methodLink own index Lib.MathLoose.abs_long.x ∈ wsAll ∧ Cond.static Lib.MathLoose.abs_long.x ∈ wsAll ∧ Cond.initialized "java/lang/Math" ∈ wsAll ∧ Cond.code Lib.MathLoose.abs_long.x Lib.MathLoose.abs_long.code 2 (some .long) ∈ wsAll) (hfr : 1 ≤ d) (hst : (st.map fun v => v.category).sum ≤ 8) (hc : kc ≤ mc) (hn : kn ≤ ms) (k : AW own nm cc nL ret d md mc ms Q pc' L (.long (if 0 < x then x else -x) :: st) h kc kn) : AW own nm cc nL ret d md mc ms Q pc L (.long x :: st) h kc kn := by
  subst hp
  intro p l e R s m args below meth c D dA b lim gr H locs ls C S P hL
  obtain ⟨hlk, hsta, hini, hcw⟩ := X
  have hts := C.2.2.2.2.1
  obtain ⟨hfr', hlo, hRc, hRs⟩ := C.2.2.2.2.2.2.2.2.1
  obtain ⟨lv, g1, g2⟩ := id hL
  exact va_mabs_long C.1 C.2.1 (C.2.2.1.trans g1.1.symm) C.2.2.2.1 (hts _ hlk) (hts _ hsta) (hts _ hini) (hts _ hcw) (Nat.le_trans hfr hfr') (by rw [aw_cats]; omega) (by rw [hRc]; exact hc) (by rw [hRs]; exact hn) hd (k p l e R s m args below meth c D dA b lim gr H locs ls C S P hL)
def aw_ws (b : Nat) (dA : Nat → ClassId) (h : aw_H) : va_W := h.mapIdx (fun k e => (b + k, aw_e b dA e))
theorem aw_ws_at (b : Nat) (dA : Nat → ClassId) (h : aw_H) (k : Nat) : (aw_ws b dA h)[k]? = (h[k]?).map (fun e => (b + k, aw_e b dA e)) := by
  unfold aw_ws
  rw [List.getElem?_mapIdx]
theorem aw_ws_P {D : va_G} {dA : Nat → ClassId} {b lim : Nat} {gr : Bool} {h : aw_H} {H : Heap} (hP : aw_P D dA b lim gr h H) : va_P D vwCl (aw_ws b dA h) H := by
  intro k q hq
  rw [aw_ws_at] at hq
  cases he : h[k]? with
  | none => rw [he] at hq; cases hq
  | some e => rw [he] at hq; cases hq; exact hP.2.2 k e he
theorem aw_ws_D {D : va_G} {dA : Nat → ClassId} {b lim : Nat} {gr : Bool} {h : aw_H} {H : Heap} (hP : aw_P D dA b lim gr h H) : va_D (aw_A b lim gr) (aw_ws b dA h) := by
  refine ⟨fun i j p q hi hj e => ?_, fun k q hq => ?_⟩
  · rw [aw_ws_at] at hi hj
    cases h1 : h[i]? with
    | none => rw [h1] at hi; cases hi
    | some e1 =>
      cases h2 : h[j]? with
      | none => rw [h2] at hj; cases hj
      | some e2 =>
        rw [h1] at hi; rw [h2] at hj
        cases hi; cases hj
        simp only at e
        omega
  · rw [aw_ws_at] at hq
    cases he : h[k]? with
    | none => rw [he] at hq; cases hq
    | some e => rw [he] at hq; cases hq; exact hP.inA (List.getElem?_eq_some_iff.mp he).1
theorem aw_ws_set (b : Nat) (dA : Nat → ClassId) (h : aw_H) (k : Nat) (e : aw_E) : (aw_ws b dA h).set k (b + k, aw_e b dA e) = aw_ws b dA (h.set k e) := by
  apply List.ext_getElem?
  intro j
  rw [aw_ws_at, List.getElem?_set, List.getElem?_set]
  have hl : (aw_ws b dA h).length = h.length := by unfold aw_ws; rw [List.length_mapIdx]
  by_cases hj : k = j
  · subst hj
    rw [if_pos rfl, if_pos rfl, hl]
    by_cases hk : k < h.length
    · rw [if_pos hk, if_pos hk]; rfl
    · rw [if_neg hk, if_neg hk]; rfl
  · rw [if_neg hj, if_neg hj, aw_ws_at]
theorem aw_ws_of {D : va_G} {dA : Nat → ClassId} {b lim : Nat} {h : aw_H} {H : Heap} (hl : h.length ≤ lim) (hP : va_P D vwCl (aw_ws b dA h) H) : aw_P D dA b lim false h H := by
  refine ⟨(fun g => by cases g), fun _ => hl, fun k e he => ?_⟩
  have := hP k (b + k, aw_e b dA e) (by rw [aw_ws_at, he]; rfl)
  exact this
def aw_wY (own : String) (index : Nat) : Prop := Cond.methodLink own index arraycopyName ∈ wsAll ∧ Cond.native arraycopyName ∈ wsAll ∧ Cond.static arraycopyName ∈ wsAll ∧ Cond.initialized "java/lang/System" ∈ wsAll
theorem aw_native {b : Nat} {st : List Value} {d X : Nat} (hst : (st.map fun v => v.category).sum ≤ 8) (hlo : 40 * d ≤ X) (hd : 1 ≤ d) : ((st.map (aw_v b)).map fun v => v.category).sum + (nativeFrameWords "java/lang/System" "arraycopy" 5 + 11) ≤ X := by
  rw [aw_cats]
  have h : nativeFrameWords "java/lang/System" "arraycopy" 5 ≤ 20 := by decide +kernel
  omega
def aw_cg (sp dp ln : Int32) (n0 n1 : Nat) : Prop := ¬ sp < 0 ∧ ¬ dp < 0 ∧ ¬ ln < 0 ∧ sp.toNatClampNeg + ln.toNatClampNeg ≤ n0 ∧ dp.toNatClampNeg + ln.toNatClampNeg ≤ n1
theorem aw_copyl {index q0 q1 t n0 n1 : Nat} {f g : Nat → Int64} {sp dp ln : Int32} (hmd : md = 2) (hd : decode cc pc = .ok (.invokestatic index, 3)) (hp : pc + 3 = pc') (X : aw_wY own index) (ht : tyTab[t]? = some .long) (he0 : h[q0]? = some (.inl (t, n0, .inr (.inl f)))) (he1 : h[q1]? = some (.inl (t, n1, .inr (.inl g)))) (hg : aw_cg sp dp ln n0 n1) (hfr : 1 ≤ d) (hst : (st.map fun v => v.category).sum ≤ 8) (hh : h.set q1 (.inl (t, n1, .inr (.inl (va_cpy f g sp.toNatClampNeg dp.toNatClampNeg ln.toNatClampNeg)))) = h') (kk : AW own nm cc nL ret d md mc ms Q pc' L st h' kc kn) : AW own nm cc nL ret d md mc ms Q pc L (.int ln :: .int dp :: .ref q1 :: .int sp :: .ref q0 :: st) h kc kn := by
  subst hp hh
  intro p l e R s m args below meth c D dA b lim gr H locs ls C S P hL
  obtain ⟨hlk, hnat, hsta, hini⟩ := X
  obtain ⟨h1, h2, h3, h4, h5⟩ := hg
  have hts := C.2.2.2.2.1
  obtain ⟨hfr', hlo, hRc, hRs⟩ := C.2.2.2.2.2.2.2.2.1
  obtain ⟨lv, g1, g2⟩ := id hL
  have hgr : gr = false := C.2.2.2.2.2.2.2.2.2.2.2.2 hmd
  subst hgr
  have hq1 : q1 < h.length := (List.getElem?_eq_some_iff.mp he1).1
  refine va_copyl (D := D) (cl := vwCl) (tys := [(dA t, FieldType.long)]) (ws := aw_ws b dA h) (A := aw_A b lim false) (H0 := s.heap) (ty := .long) C.1 C.2.1 (C.2.2.1.trans g1.1.symm) C.2.2.2.1 (hts _ hlk) (hts _ hnat) (hts _ hsta) (hts _ hini) (C.2.2.2.2.2.2.2.2.2.1.one ht) (aw_ws_P P) (aw_ws_D P) S q0 q1 0 0 (a0 := b + q0) (a := b + q1) (by rw [aw_ws_at, he0]; rfl) (by rw [aw_ws_at, he1]; rfl) rfl rfl rfl h1 h2 h3 h4 h5 (fun _ _ => rfl) (Nat.le_trans hfr hfr') (aw_native hst hlo (Nat.le_trans hfr (Nat.le_refl d))) hd ?_
  intro H1 locs1 hP1 hD1 hS1
  have hP2 : va_P D vwCl (aw_ws b dA (h.set q1 (.inl (t, n1, .inr (.inl (va_cpy f g sp.toNatClampNeg dp.toNatClampNeg ln.toNatClampNeg)))))) H1 := by
    rw [← aw_ws_set]; exact hP1
  exact kk p l e R s m args below meth c D dA b lim false H1 locs1 ls C hS1 (aw_ws_of (by rw [List.length_set]; exact P.2.1 rfl) hP2) hL
theorem aw_heap (e : h = h') (k : AW own nm cc nL ret d md mc ms Q pc L st h' kc kn) : AW own nm cc nL ret d md mc ms Q pc L st h kc kn := by
  subst e
  exact k
def aw_fpF (own : String) (index ci k : Nat) (CC : String) (T : u_T) (N : Nat) (ty : FieldType) : Prop := aw_fl own index ci k CC T N ∧ (∃ ty0, aw_ty T N ty0) ∧ (T k).2.2.2 = true ∧ (T k).1 = own ∧ parseFieldDescriptor (T k).2.2.1 = some ty
theorem aw_putr {N ci index k q x : Nat} {CC : String} {T : u_T} {fs : List Value} {ty : FieldType} (hd : decode cc pc = .ok (.putfield index, 3)) (hp : pc + 3 = pc') (X : aw_fp own index ci k CC T N ty) (g : ∀ z, narrow ty (.ref z) = .ref z ∧ fits ty (.ref z) = true) (he : h[q]? = some (.inr (ci, fs))) (hlen : k < fs.length) (hh : h.set q (.inr (ci, fs.set k (.ref x))) = h') (kk : AW own nm cc nL ret d md mc ms Q pc' L st h' kc kn) : AW own nm cc nL ret d md mc ms Q pc L (.ref x :: .ref q :: st) h kc kn := by
  obtain ⟨F, ⟨ty0, Y⟩, hfin, hds⟩ := X
  exact aw_put hd hp F Y hfin hds (fun _ => (g _).1) (fun _ => (g _).2) he hlen hh kk
theorem aw_putFr {N ci index k q x : Nat} {CC : String} {T : u_T} {fs : List Value} {ty : FieldType} (hd : decode cc pc = .ok (.putfield index, 3)) (hp : pc + 3 = pc') (X : aw_fpF own index ci k CC T N ty) (hini : nm = "<init>") (g : ∀ z, narrow ty (.ref z) = .ref z ∧ fits ty (.ref z) = true) (he : h[q]? = some (.inr (ci, fs))) (hlen : k < fs.length) (hh : h.set q (.inr (ci, fs.set k (.ref x))) = h') (kk : AW own nm cc nL ret d md mc ms Q pc' L st h' kc kn) : AW own nm cc nL ret d md mc ms Q pc L (.ref x :: .ref q :: st) h kc kn := by
  obtain ⟨F, ⟨ty0, Y⟩, hfin, hdecl, hds⟩ := X
  exact aw_putF hd hp F Y hfin hini hdecl hds (fun _ => (g _).1) (fun _ => (g _).2) he hlen hh kk
theorem aw_putFi {N ci index k q : Nat} {x : Int32} {CC : String} {T : u_T} {fs : List Value} (hd : decode cc pc = .ok (.putfield index, 3)) (hp : pc + 3 = pc') (X : aw_fpF own index ci k CC T N .int) (hini : nm = "<init>") (he : h[q]? = some (.inr (ci, fs))) (hlen : k < fs.length) (hh : h.set q (.inr (ci, fs.set k (.int x))) = h') (kk : AW own nm cc nL ret d md mc ms Q pc' L st h' kc kn) : AW own nm cc nL ret d md mc ms Q pc L (.int x :: .ref q :: st) h kc kn := by
  obtain ⟨F, ⟨ty0, Y⟩, hfin, hdecl, hds⟩ := X
  exact aw_putF hd hp F Y hfin hini hdecl hds (fun _ => vp_nar_int x) (fun _ => rfl) he hlen hh kk
def aw_nw (own : String) (index ci : Nat) (CC : String) (T : u_T) (N : Nat) (fs : List Value) : Prop := vwCl[ci]? = some (CC, T, N) ∧ (∀ w ∈ u_ws CC T N, w ∈ wsAll) ∧ (∃ ty0, aw_ty T N ty0 ∧ ∀ (b j : Nat), j < N → defaultValue (ty0 j) = vp_V (fs.map (aw_v b)) j) ∧ Cond.classLink own index CC ∈ wsAll ∧ Cond.instantiable CC N ∈ wsAll ∧ Cond.initialized CC ∈ wsAll
theorem aw_newo {N ci index : Nat} {CC : String} {T : u_T} {fs : List Value} (hmd : md = 1) (hd : decode cc pc = .ok (.new index, 3)) (hp : pc + 3 = pc') (X : aw_nw own index ci CC T N fs) (hc1 : kc + 1 ≤ mc) (hs1 : kn + N ≤ ms) (hh : h ++ [.inr (ci, fs)] = h') {q : Nat} (hq : h.length = q) (kk : AW own nm cc nL ret d md mc ms Q pc' L (.ref q :: st) h' (kc + 1) (kn + N)) : AW own nm cc nL ret d md mc ms Q pc L st h kc kn := by
  obtain ⟨hc, hin, ⟨ty0, Y, hfs⟩, hcl, hins, hini⟩ := X
  exact aw_new hmd hd hp hc hin Y hcl hins hini hfs hc1 hs1 hh hq kk
theorem aw_objI {index q : Nat} (hd : decode cc pc = .ok (.invokespecial index, 3)) (hp : pc + 3 = pc') (X : Cond.methodLink own index Lib.objectInit ∈ wsAll ∧ Cond.instanceMethod Lib.objectInit ∈ wsAll ∧ Cond.code Lib.objectInit ⟨#[0xb1]⟩ 1 none ∈ wsAll) (hfr : 1 ≤ d) (hst : (st.map fun v => v.category).sum ≤ 8) (kk : AW own nm cc nL ret d md mc ms Q pc' L st h kc kn) : AW own nm cc nL ret d md mc ms Q pc L (.ref q :: st) h kc kn := aw_objInit hd hp X.1 X.2.1 X.2.2 hfr hst kk
theorem aw_callIn {y : MethodName} {cy : ByteArray} {nLy d' md' mc' ms' index n q : Nat} {av : List Value} {h1 : aw_H} (hd : decode cc pc = .ok (.invokespecial index, 3)) (hp : pc + 3 = pc') (X : aw_wI own index y cy nLy n) (hM : AM y cy nLy none d' md' mc' ms' (.ref q :: av) h (aw_is none h1)) (hmd : md' = 0 ∨ md' = md) (hn : av.length = n) (hR : d' + 1 ≤ d) (hf : kc + mc' ≤ mc ∧ kn + ms' ≤ ms) (hst : (st.map fun v => v.category).sum ≤ 8) (kk : AW own nm cc nL ret d md mc ms Q pc' L st h1 (kc + mc') (kn + ms')) : AW own nm cc nL ret d md mc ms Q pc L (av.reverse ++ .ref q :: st) h kc kn := by
  refine aw_callI hd hp X hM hmd hn hR hf hst ?_
  rintro _ _ ⟨rfl, rfl⟩
  exact kk
def aw_wJ (own : String) (index : Nat) (y : MethodName) (cy : ByteArray) (nLy : Nat) (n : Nat) (host : String) : Prop := Cond.code y cy nLy none ∈ wsAll ∧ Cond.initialized y.cls ∈ wsAll ∧ (own, index, y, host) ∈ nwM ∧ Cond.instanceMethod y ∈ wsAll ∧ y.name = "<init>" ∧ aw_mok y n ∧ nLy ≤ 20
theorem aw_callJn {y : MethodName} {cy : ByteArray} {nLy d' md' mc' ms' index n q : Nat} {host : String} {av : List Value} {h1 : aw_H} (hd : decode cc pc = .ok (.invokespecial index, 3)) (hp : pc + 3 = pc') (X : aw_wJ own index y cy nLy n host) (hM : AM y cy nLy none d' md' mc' ms' (.ref q :: av) h (aw_is none h1)) (hmd : md' = 0 ∨ md' = md) (hn : av.length = n) (hR : d' + 1 ≤ d) (hf : kc + mc' ≤ mc ∧ kn + ms' ≤ ms) (hst : (st.map fun v => v.category).sum ≤ 8) (kk : AW own nm cc nL ret d md mc ms Q pc' L st h1 (kc + mc') (kn + ms')) : AW own nm cc nL ret d md mc ms Q pc L (av.reverse ++ .ref q :: st) h kc kn := by
  subst hp
  intro p l e R s m args below meth c D dA b lim gr H locs ls C S P hL
  obtain ⟨hcw, hini, hlk, hins, hy1, hy, hnl⟩ := X
  have hts := C.2.2.2.2.1
  obtain ⟨hfr, hlo, hRc, hRs⟩ := C.2.2.2.2.2.2.2.2.1
  obtain ⟨lv, g1, g2⟩ := id hL
  refine aw_back (st := st) (va_runIN (g := F0 m pc ls ((av.reverse ++ .ref q :: st).map (aw_v b))) (b := b + q) (As := av.map (aw_v b)) (Ts := wsAll) ⟨C.1, C.2.1, C.2.2.1, C.2.2.2.1, hts⟩ (hM l D dA b lim gr (aw_md_use hmd C.2.2.2.2.2.2.2.2.2.2.2)) ⟨va_cnB n hts (aw_goodC hcw) rfl rfl rfl (C.2.2.2.2.2.2.2.2.2.2.1 _ hlk) (hts _ hini) hy ⟨by show d' + 1 ≤ _; omega, by show 8 + (nLy + 11) + 40 * d' ≤ _; omega⟩, hy1, hts _ hins⟩ ⟨aw_blind, fun U hU hW => ⟨rfl, by rw [hU]; exact P, C.2.2.2.2.2.2.2.2.2.1.moved hW.alike, C.2.2.2.2.2.2.2.2.2.2.1.warm hW⟩⟩ rfl (by rw [List.length_map]; exact hn) g1.1 (by show (av.reverse ++ .ref q :: st).map (aw_v b) = _; rw [List.map_append, List.map_reverse]; rfl) (by show 2 * 0 + _ ≤ _; rw [aw_cats]; omega) hd ⟨by rw [hRc]; exact hf.1, by rw [hRs]; exact hf.2⟩) C S P hL ?_
  rintro _ _ ⟨rfl, rfl⟩
  exact kk
end AWR
/- a method's start -/
def aw_al : List Value → List (Option Value)
  | [] => []
  | v :: vs => if v.category = 2 then some v :: none :: aw_al vs else some v :: aw_al vs
def aw_in (av : List Value) (nL : Nat) : List (Option Value) := aw_al av ++ List.replicate (nL - (aw_al av).length) none
theorem aw_al_at (b : Nat) : ∀ (av : List Value) (o i : Nat) (v : Value), (aw_al av)[i]? = some (some v) → (o + i, aw_v b v) ∈ lv_args o (av.map (aw_v b))
  | [], o, i, v, h => by simp [aw_al] at h
  | u :: us, o, i, v, h => by
    by_cases hc : u.category = 2
    · simp only [aw_al, hc, if_true] at h
      simp only [List.map_cons, lv_args, aw_cat, hc, if_true]
      match i, h with
      | 0, h => cases h; exact List.mem_cons_self
      | 1, h => simp at h
      | i + 2, h =>
        have := aw_al_at b us (o + 2) i v (by simpa using h)
        rw [show o + (i + 2) = o + 2 + i by omega]
        exact List.mem_cons_of_mem _ this
    · simp only [aw_al, hc, if_false] at h
      simp only [List.map_cons, lv_args, aw_cat, hc, if_false]
      match i, h with
      | 0, h => cases h; exact List.mem_cons_self
      | i + 1, h =>
        have := aw_al_at b us (o + 1) i v (by simpa using h)
        rw [show o + (i + 1) = o + 1 + i by omega]
        exact List.mem_cons_of_mem _ this
theorem aw_sl (b : Nat) : ∀ av : List Value, (lg_sl (av.map (aw_v b))).length = (lg_sl av).length
  | [] => rfl
  | v :: vs => by
    have ih := aw_sl b vs
    simp only [lg_sl, List.map_cons, List.flatMap_cons, List.length_append, aw_cat] at ih ⊢
    rw [ih]
    by_cases hc : v.category = 2 <;> simp [hc]
theorem AM.of {y : MethodName} {cc : ByteArray} {nL : Nat} {ret : Option FieldType} {d md mc ms : Nat} {av : List Value} {h : aw_H} {Q : Option Value → aw_H → Prop} {L : List (Option Value)} {own nm : String} (ho : y.cls = own) (hnm : y.name = nm) (hy : plainName y.cls = true) (hlen : (lg_sl av).length ≤ nL) (hL : aw_in av nL = L) (k : AW own nm cc nL ret d md mc ms Q 0 L [] h 0 0) : AM y cc nL ret d md mc ms av h Q := by
  subst hL ho hnm
  intro l D dA b lim gr hmd
  refine Met.ofW (cc := cc) (maxL := nL) (ret := ret) hy rfl ?_
  intro p e s m args below meth c s₁ B hml hv
  obtain ⟨rfl, hP, hK, hN⟩ := hv
  have hts := atoms_spec (ws := Cond.code y cc nL ret :: wsAll) B.pre
  have hown : s.vm.findClass y.cls = some m.cls := findClass_of_methodNamed B.named
  rw [lg_entry_eq]
  have hl := lv_entry (av.map (aw_v b)) (n := nL) (by rw [aw_sl]; exact hlen)
  refine k p l e _ s m _ below meth c D dA b lim gr s.heap [] _ ⟨B.exec, B.bytes, hml, hown, fun w hw => hts w (List.mem_cons_of_mem _ hw), B.returns, B.notSynchronized, (name_of_methodNamed B.named B.method).1, ⟨Nat.le_refl _, Nat.le_refl _, rfl, rfl⟩, hK, hN, hmd⟩ va_S.rf hP ⟨_, hl, ?_⟩
  intro i v hi
  unfold aw_in at hi
  by_cases g : i < (aw_al av).length
  · rw [List.getElem?_append_left g] at hi
    have := aw_al_at b av 0 i v hi
    rwa [Nat.zero_add] at this
  · rw [List.getElem?_append_right (by omega), List.getElem?_replicate] at hi
    split at hi <;> cases hi
/- steps of the pure texts -/
theorem aw_ifp {α : Type} {c : Prop} {A B : Option α} {r : α} (hc : c) [Decidable c] (hf : (if c then A else B) = some r) : A = some r := by rwa [if_pos hc] at hf
theorem aw_ifn {α : Type} {c : Prop} {A B : Option α} {r : α} (hc : ¬ c) [Decidable c] (hf : (if c then A else B) = some r) : B = some r := by rwa [if_neg hc] at hf
theorem aw_gi {α : Type} {i : Int32} {n : Nat} {k : Option α} {r : α} (h : me_gi i n k = some r) : vp_in i n ∧ k = some r := by
  unfold me_gi at h
  by_cases q : i < 0 ∨ n ≤ i.toNatClampNeg
  · rw [if_pos q] at h; cases h
  · rw [if_neg q] at h; exact ⟨q, h⟩
theorem aw_gd {α β : Type} [DecidableEq β] {y z : β} {k : Option α} {r : α} (h : me_gd y z k = some r) : ¬ y = z ∧ k = some r := by
  unfold me_gd at h
  by_cases q : y = z
  · rw [if_pos q] at h; cases h
  · rw [if_neg q] at h; exact ⟨q, h⟩
theorem aw_gz {α : Type} {x : Int32} {k : Option α} {r : α} (h : me_gz x k = some r) : (narrow .boolean (.int x) = .int x ∧ fits .boolean (.int x) = true) ∧ k = some r := by
  unfold me_gz at h
  by_cases q : x = 0 ∨ x = 1
  · rw [if_pos q] at h
    refine ⟨?_, h⟩
    rcases q with q | q <;> subst q <;> exact ⟨rfl, rfl⟩
  · rw [if_neg q] at h; cases h
theorem aw_gc {α : Type} {sp dp ln : Int32} {n0 n1 : Nat} {k : Option α} {r : α} (h : me_gc sp dp ln n0 n1 k = some r) : aw_cg sp dp ln n0 n1 ∧ k = some r := by
  unfold me_gc at h
  by_cases q : ¬ sp < 0 ∧ ¬ dp < 0 ∧ ¬ ln < 0 ∧ sp.toNatClampNeg + ln.toNatClampNeg ≤ n0 ∧ dp.toNatClampNeg + ln.toNatClampNeg ≤ n1
  · rw [if_pos q] at h; exact ⟨q, h⟩
  · rw [if_neg q] at h; cases h
theorem aw_no {α : Type} {r : α} {P : Prop} (h : (none : Option α) = some r) : P := by cases h
theorem aw_bind {α β : Type} {o : Option α} {k : α → Option β} {r : β} (h : o.bind k = some r) : ∃ a, o = some a ∧ k a = some r := by
  cases o with
  | none => cases h
  | some a => exact ⟨a, rfl, h⟩
