section LAW
def lj_C (p : Program) (s : State) (m : MethodId) (meth : Method) (c : Code) (b Lx : Nat) (xs : Nat → Int32) (D : va_G) (dA : Nat → ClassId) : Prop := lw_At p s m meth c b Lx xs ∧ aw_K D dA s ∧ aw_N s
def LJ (p : Program) (l : Launch) (e : Env) (s : State) (m : MethodId) (below : List Frame) (meth : Method) (c : Code) (b : Nat) (D : va_G) (dA : Nat → ClassId) (n pc : Nat) (i : Int32) (st : List Value) (μ ν : me_M) : Prop :=
  ∀ (H : Heap) (locs : List Loc) (ls : Array Slot), aw_P D dA s.heap.size 24 false (hC n μ) H → aw_P D dA (s.heap.size + 24) 16 false (hM ν) H → va_S (fun q => s.heap.size ≤ q) s.heap H locs → lv_has ls 4 [(3, .int i), (2, .ref (s.heap.size + 24)), (1, .ref s.heap.size), (0, .ref b)] →
    W p l e room_1 s m #[Value.ref b] below meth c H locs 600000 7302250 (lw_Z below #[Value.ref b] s) (F0 m pc ls st)
variable {p : Program} {l : Launch} {e : Env} {s : State} {m : MethodId} {below : List Frame} {meth : Method} {c : Code} {b Lx : Nat} {xs : Nat → Int32} {D : va_G} {dA : Nat → ClassId} {n pc pc' : Nat} {i : Int32} {st : List Value} {μ ν : me_M}
theorem lj_ws (C : lj_C p s m meth c b Lx xs D dA) : ∀ w ∈ wsAll, w.before #[Value.ref b] s = true := fun w hw => C.1.2.2.2.2.2.1 w (List.mem_filter.mp hw).1
set_option maxRecDepth 20000 in
theorem lj_al0  (C : lj_C p s m meth c b Lx xs D dA) (hd : decode code pc = .ok (.aload_n 0, 1)) (hp : pc + 1 = pc') (k : LJ p l e s m below meth c b D dA n pc' i (.ref b :: st) μ ν) : LJ p l e s m below meth c b D dA n pc i (st) μ ν := by
  subst hp
  intro H locs ls P1 P2 S hl
  exact lv_aload_n C.1.1 C.1.2.1 hd rfl (lv_at hl 3 rfl) (k H locs ls P1 P2 S hl)
set_option maxRecDepth 20000 in
theorem lj_al1  (C : lj_C p s m meth c b Lx xs D dA) (hd : decode code pc = .ok (.aload_n 1, 1)) (hp : pc + 1 = pc') (k : LJ p l e s m below meth c b D dA n pc' i (.ref s.heap.size :: st) μ ν) : LJ p l e s m below meth c b D dA n pc i (st) μ ν := by
  subst hp
  intro H locs ls P1 P2 S hl
  exact lv_aload_n C.1.1 C.1.2.1 hd rfl (lv_at hl 2 rfl) (k H locs ls P1 P2 S hl)
set_option maxRecDepth 20000 in
theorem lj_al2  (C : lj_C p s m meth c b Lx xs D dA) (hd : decode code pc = .ok (.aload_n 2, 1)) (hp : pc + 1 = pc') (k : LJ p l e s m below meth c b D dA n pc' i (.ref (s.heap.size + 24) :: st) μ ν) : LJ p l e s m below meth c b D dA n pc i (st) μ ν := by
  subst hp
  intro H locs ls P1 P2 S hl
  exact lv_aload_n C.1.1 C.1.2.1 hd rfl (lv_at hl 1 rfl) (k H locs ls P1 P2 S hl)
set_option maxRecDepth 20000 in
theorem lj_il3  (C : lj_C p s m meth c b Lx xs D dA) (hd : decode code pc = .ok (.iload_n 3, 1)) (hp : pc + 1 = pc') (k : LJ p l e s m below meth c b D dA n pc' i (.int i :: st) μ ν) : LJ p l e s m below meth c b D dA n pc i (st) μ ν := by
  subst hp
  intro H locs ls P1 P2 S hl
  exact lv_iload_n C.1.1 C.1.2.1 hd rfl (lv_at hl 0 rfl) (k H locs ls P1 P2 S hl)
set_option maxRecDepth 20000 in
theorem lj_ic {z : Int} {v : Int32} (C : lj_C p s m meth c b Lx xs D dA) (hd : decode code pc = .ok (.iconst z, 1)) (hp : pc + 1 = pc') (hv : Int32.ofInt z = v) (k : LJ p l e s m below meth c b D dA n pc' i (.int v :: st) μ ν) : LJ p l e s m below meth c b D dA n pc i (st) μ ν := by
  subst hp
  intro H locs ls P1 P2 S hl
  exact lv_iconst C.1.1 C.1.2.1 hd hv (k H locs ls P1 P2 S hl)
set_option maxRecDepth 20000 in
theorem lj_bi {z : Int} {v : Int32} (C : lj_C p s m meth c b Lx xs D dA) (hd : decode code pc = .ok (.bipush z, 2)) (hp : pc + 2 = pc') (hv : (Int8.ofInt z).toInt32 = v) (k : LJ p l e s m below meth c b D dA n pc' i (.int v :: st) μ ν) : LJ p l e s m below meth c b D dA n pc i (st) μ ν := by
  subst hp
  intro H locs ls P1 P2 S hl
  exact lv_bipush C.1.1 C.1.2.1 hd hv (k H locs ls P1 P2 S hl)
set_option maxRecDepth 20000 in
theorem lj_iadd {x y : Int32} (C : lj_C p s m meth c b Lx xs D dA) (hd : decode code pc = .ok (.iadd, 1)) (hp : pc + 1 = pc') (k : LJ p l e s m below meth c b D dA n pc' i (.int (x + y) :: st) μ ν) : LJ p l e s m below meth c b D dA n pc i (.int y :: .int x :: st) μ ν := by
  subst hp
  intro H locs ls P1 P2 S hl
  exact lv_iadd C.1.1 C.1.2.1 hd (k H locs ls P1 P2 S hl)
set_option maxRecDepth 20000 in
theorem lj_isub {x y : Int32} (C : lj_C p s m meth c b Lx xs D dA) (hd : decode code pc = .ok (.isub, 1)) (hp : pc + 1 = pc') (k : LJ p l e s m below meth c b D dA n pc' i (.int (x - y) :: st) μ ν) : LJ p l e s m below meth c b D dA n pc i (.int y :: .int x :: st) μ ν := by
  subst hp
  intro H locs ls P1 P2 S hl
  exact lv_isub C.1.1 C.1.2.1 hd (k H locs ls P1 P2 S hl)
set_option maxRecDepth 20000 in
theorem lj_iand {x y : Int32} (C : lj_C p s m meth c b Lx xs D dA) (hd : decode code pc = .ok (.iand, 1)) (hp : pc + 1 = pc') (k : LJ p l e s m below meth c b D dA n pc' i (.int (x &&& y) :: st) μ ν) : LJ p l e s m below meth c b D dA n pc i (.int y :: .int x :: st) μ ν := by
  subst hp
  intro H locs ls P1 P2 S hl
  exact lv_iand C.1.1 C.1.2.1 hd (k H locs ls P1 P2 S hl)
set_option maxRecDepth 20000 in
theorem lj_lcmp {x y : Int64} (C : lj_C p s m meth c b Lx xs D dA) (hd : decode code pc = .ok (.lcmp, 1)) (hp : pc + 1 = pc') (k : LJ p l e s m below meth c b D dA n pc' i (.int (lg_cmp x y) :: st) μ ν) : LJ p l e s m below meth c b D dA n pc i (.long y :: .long x :: st) μ ν := by
  subst hp
  intro H locs ls P1 P2 S hl
  exact W.lcmp C.1.1 C.1.2.1 hd (k H locs ls P1 P2 S hl)
set_option maxRecDepth 20000 in
theorem lj_sld {x : Int32} (C : lj_C p s m meth c b Lx xs D dA) (hd : decode code pc = .ok (.iaload, 1)) (hp : pc + 1 = pc') (hin : vp_in x Lx) (k : LJ p l e s m below meth c b D dA n pc' i (.int (xs x.toNatClampNeg) :: st) μ ν) : LJ p l e s m below meth c b D dA n pc i (.int x :: .ref b :: st) μ ν := by
  subst hp
  intro H locs ls P1 P2 S hl
  exact va_sld C.1.1 C.1.2.1 C.1.2.2.2.2.2.2.1 C.1.2.2.2.2.2.2.2.1 (Nat.not_le.mpr C.1.2.2.2.2.2.2.2.1) S hin hd (k H locs ls P1 P2 S hl)
set_option maxRecDepth 20000 in
theorem lj_slen  (C : lj_C p s m meth c b Lx xs D dA) (hd : decode code pc = .ok (.arraylength, 1)) (hp : pc + 1 = pc') (k : LJ p l e s m below meth c b D dA n pc' i (.int (nI Lx) :: st) μ ν) : LJ p l e s m below meth c b D dA n pc i (.ref b :: st) μ ν := by
  subst hp
  intro H locs ls P1 P2 S hl
  exact va_slen C.1.1 C.1.2.1 C.1.2.2.2.2.2.2.1 C.1.2.2.2.2.2.2.2.1 (Nat.not_le.mpr C.1.2.2.2.2.2.2.2.1) S hd (k H locs ls P1 P2 S hl)
set_option maxRecDepth 20000 in
theorem lj_goto {off : Int} {tgt : Nat} (C : lj_C p s m meth c b Lx xs D dA) (hd : decode code pc = .ok (.goto off, 3)) (ht : (pc : Int) + off = (tgt : Int)) (k : LJ p l e s m below meth c b D dA n tgt i st μ ν) : LJ p l e s m below meth c b D dA n pc i st μ ν := by
  intro H locs ls P1 P2 S hl
  exact lv_goto C.1.1 C.1.2.1 hd ht (k H locs ls P1 P2 S hl)
set_option maxRecDepth 20000 in
theorem lj_icmp_gt {x y : Int32} {off : Int} {tgt : Nat} (C : lj_C p s m meth c b Lx xs D dA) (hd : decode code pc = .ok (.if_icmp .gt off, 3)) (ht : (pc : Int) + off = (tgt : Int)) (hp : pc + 3 = pc') (kt : y < x → LJ p l e s m below meth c b D dA n tgt i st μ ν) (kf : ¬ y < x → LJ p l e s m below meth c b D dA n pc' i st μ ν) : LJ p l e s m below meth c b D dA n pc i (.int y :: .int x :: st) μ ν := by
  subst hp
  intro H locs ls P1 P2 S hl
  exact lv_icmp_gt C.1.1 C.1.2.1 hd ht (fun q => kt q H locs ls P1 P2 S hl) (fun q => kf q H locs ls P1 P2 S hl)
set_option maxRecDepth 20000 in
theorem lj_same {x : Int32} {off : Int} {tgt : Nat} (C : lj_C p s m meth c b Lx xs D dA) (hd : decode code pc = .ok (.if_icmp .eq off, 3)) (ht : (pc : Int) + off = (tgt : Int)) (k : LJ p l e s m below meth c b D dA n tgt i st μ ν) : LJ p l e s m below meth c b D dA n pc i (.int x :: .int x :: st) μ ν := by
  intro H locs ls P1 P2 S hl
  exact lv_icmp_eq C.1.1 C.1.2.1 hd ht (fun q => k H locs ls P1 P2 S hl) (fun q => absurd rfl q)
set_option maxRecDepth 20000 in
theorem lj_cmp0 (x : Int64) : lg_cmp x x = 0 := by
  unfold lg_cmp
  simp
set_option maxRecDepth 20000 in
theorem lj_zero {x : Int64} {off : Int} {tgt : Nat} (C : lj_C p s m meth c b Lx xs D dA) (hd : decode code pc = .ok (.ifCond .eq off, 3)) (ht : (pc : Int) + off = (tgt : Int)) (k : LJ p l e s m below meth c b D dA n tgt i st μ ν) : LJ p l e s m below meth c b D dA n pc i (.int (lg_cmp x x) :: st) μ ν := by
  intro H locs ls P1 P2 S hl
  exact lv_if_eq C.1.1 C.1.2.1 hd ht (fun q => k H locs ls P1 P2 S hl) (fun q => absurd (lj_cmp0 x) q)
set_option maxRecDepth 20000 in
theorem lj_iinc {z : Int} {v : Int32} (C : lj_C p s m meth c b Lx xs D dA) (hd : decode code pc = .ok (.iinc 3 z, 3)) (hp : pc + 3 = pc') (hv : i + Int32.ofInt z = v) (k : LJ p l e s m below meth c b D dA n pc' v st μ ν) : LJ p l e s m below meth c b D dA n pc i st μ ν := by
  subst hp
  intro H locs ls P1 P2 S hl
  exact lv_iinc C.1.1 C.1.2.1 hd hl (k := 0) rfl hv (by decide) rfl (fun ls' hl' => k H locs ls' P1 P2 S hl')
set_option maxRecDepth 20000 in
theorem lj_tab {dflt lo hi : Int} {offs : Array Int} {len : Nat} {x : Int32} {off : Int} {tgt : Nat} (C : lj_C p s m meth c b Lx xs D dA) (hd : decode code pc = .ok (.tableswitch dflt lo hi offs, len)) (h1 : ¬ x.toInt < lo) (h2 : ¬ hi < x.toInt) (ho : offs[(x.toInt - lo).toNat]? = some off) (ht : (pc : Int) + off = (tgt : Int)) (k : LJ p l e s m below meth c b D dA n tgt i st μ ν) : LJ p l e s m below meth c b D dA n pc i (.int x :: st) μ ν := by
  intro H locs ls P1 P2 S hl
  exact lv_tableIn C.1.1 C.1.2.1 hd h1 h2 ho ht (k H locs ls P1 P2 S hl)
set_option maxRecDepth 20000 in
theorem lj_tabO {dflt lo hi : Int} {offs : Array Int} {len : Nat} {x : Int32} {tgt : Nat} (C : lj_C p s m meth c b Lx xs D dA) (hd : decode code pc = .ok (.tableswitch dflt lo hi offs, len)) (h : x.toInt < lo ∨ hi < x.toInt) (ht : (pc : Int) + dflt = (tgt : Int)) (k : LJ p l e s m below meth c b D dA n tgt i st μ ν) : LJ p l e s m below meth c b D dA n pc i (.int x :: st) μ ν := by
  intro H locs ls P1 P2 S hl
  exact lv_tableOut C.1.1 C.1.2.1 hd h ht (k H locs ls P1 P2 S hl)
set_option maxRecDepth 20000 in
theorem lj_end (C : lj_C p s m meth c b Lx xs D dA) (hd : decode code pc = .ok (.ireturn, 1)) : LJ p l e s m below meth c b D dA n pc i [.int 1] μ ν := by
  intro H locs ls P1 P2 S hl
  refine va_forget (fun q hq => S.2.2 q hq) ?_
  exact lw_ret C.1.1 C.1.2.1 C.1.2.2.1 C.1.2.2.2.2.2.2.2.2.1 hd
set_option maxRecDepth 20000 in
theorem lj_arg {j : Nat} {z : Int} (a : Nat) (C : lj_C p s m meth c b Lx xs D dA) (d0 : decode code pc = .ok (.aload_n 0, 1)) (d1 : decode code (pc + 1) = .ok (.iload_n 3, 1)) (d2 : decode code (pc + 2) = .ok (.iconst z, 1)) (d3 : decode code (pc + 3) = .ok (.iadd, 1)) (d4 : decode code (pc + 4) = .ok (.iaload, 1)) (hp : pc + 5 = pc') (hv : Int32.ofInt z = nI a) (hj : j + a < Lx) (hLx : Lx < 2 ^ 31) (k : LJ p l e s m below meth c b D dA n pc' (nI j) (.int (xs (j + a)) :: st) μ ν) : LJ p l e s m below meth c b D dA n pc (nI j) st μ ν := by
  refine lj_al0 (pc' := pc + 1) C d0 rfl ?_
  refine lj_il3 (pc' := pc + 2) C d1 rfl ?_
  refine lj_ic (pc' := pc + 3) C d2 rfl hv ?_
  refine lj_iadd (pc' := pc + 4) C d3 rfl ?_
  rw [nI_add]
  refine lj_sld (pc' := pc + 5) C d4 rfl (vp_in_nI hj hLx) ?_
  rw [nI_clamp (by omega), hp]
  exact k
set_option maxRecDepth 20000 in
theorem lj_notA {B k : Nat} : ¬ aw_A B 24 false (B + 24 + k) := by
  rintro ⟨-, q | q⟩
  · cases q
  · omega
theorem lj_notB {B k : Nat} (h : k < 24) : ¬ aw_A (B + 24) 16 false (B + k) := by
  rintro ⟨q, -⟩
  omega
def lj_room (d nLy : Nat) : Prop := d + 1 ≤ 10 ∧ 8 + (nLy + 11) + 40 * d ≤ 384
theorem lj_keep {B lim B' lim' : Nat} {h : aw_H} {H H1 : Heap} (hP : aw_P D dA B lim false h H) (hk : ∀ q : Nat, q < H.size → ¬ aw_A B' lim' false q → H1[q]? = H[q]?) (ha : ∀ k, k < h.length → ¬ aw_A B' lim' false (B + k)) : aw_P D dA B lim false h H1 :=
  ⟨(fun g => by cases g), hP.2.1, fun k e he => (hP.2.2 k e he).kept (hk _ (hP.2.2 k e he).lt (ha k (List.getElem?_eq_some_iff.mp he).1))⟩
set_option maxRecDepth 20000 in
theorem lj_callC {y : MethodName} {cy : ByteArray} {nLy d md index na : Nat} {rt : Option FieldType} {av : List Value} {v : Value} {μ' : me_M} (C : lj_C p s m meth c b Lx xs D dA) (hd : decode code pc = .ok (.invokevirtual index, 3)) (hp : pc + 3 = pc') (X : aw_wV "ArcTapeLaw" index y cy nLy rt na 6 "ArcTape" ft_A 8) (hM : AM y cy nLy rt d md 0 0 (.ref 0 :: av) (hC n μ) (aw_is (some v) (hC n μ'))) (hmd : md = 0 ∨ md = 2) (hn : av.length = na) (hR : lj_room d nLy) (hav : ∀ z, av.map (aw_v z) = av) (hv : ∀ z, aw_v z v = v) (hst : (st.map fun v => v.category).sum ≤ 8) (k : LJ p l e s m below meth c b D dA n pc' i (v :: st) μ' ν) : LJ p l e s m below meth c b D dA n pc i (av.reverse ++ .ref s.heap.size :: st) μ ν := by
  subst hp
  intro H locs ls P1 P2 S hl
  obtain ⟨hcw, hini, hlk, hins, hsel, hc, hy, hnl⟩ := X
  have hts := lj_ws C
  have hmd' : aw_md md false := ⟨fun q => by omega, fun _ => rfl⟩
  have hr := va_runV (R := room_1) (g := F0 m pc ls (av.reverse ++ .ref s.heap.size :: st)) (b := s.heap.size) (C := "ArcTape") (As := av) (Ts := wsAll) (H := H) (locs := locs) (cells := 600000) (slots := 7302250) (below := below) (meth := meth) (e := e) (rest := st) ⟨C.1.1, C.1.2.1, C.1.2.2.2.1, C.1.2.2.2.2.1, hts⟩ (hM l D dA s.heap.size 24 false hmd') ⟨callB_of na hts (aw_goodC hcw) rfl rfl rfl (hts _ hini) (hts _ hlk) hy ⟨hR.1, hR.2⟩, hts _ hins, hts _ hsel⟩ ⟨aw_blind, va_recv C.2.1.nil (P1.one hC_0) hc (q0 := 0) rfl, fun U hU hW => ⟨by show _ = (List.map (aw_v s.heap.size) (Value.ref 0 :: av)).toArray; rw [List.map_cons, hav]; rfl, by rw [hU]; exact P1, C.2.1.moved hW.alike, C.2.2.warm hW⟩⟩ rfl hn hl.1 rfl (by show 2 * 0 + _ ≤ _; omega) hd ⟨Nat.le_refl _, Nat.le_refl _⟩
  intro T hT X
  obtain ⟨v1, st₀, t, T', Lc, h0, X', hLc, e1, e2, ⟨⟨v0, h', hv1, ⟨rfl, rfl⟩, hP'⟩, hz, hk⟩, stp⟩ := hr T hT X
  rw [h0] at hz hk
  have hK2 := lj_keep P2 hk (fun k _ => lj_notA)
  have hS' : va_S (fun q => s.heap.size ≤ q) s.heap T'.heap (locs ++ Lc) := by
    refine ⟨Nat.le_trans S.1 (by rw [e1]; exact hz), fun q g1 g2 => ?_, fun q hq' => ?_⟩
    · rw [e1, hk q (Nat.lt_of_lt_of_le g1 S.1) (fun a => g2 (by have := a.1; omega))]
      exact S.2.1 q g1 g2
    · rcases List.mem_append.mp hq' with g | g
      · exact S.2.2 q g
      · have := (hLc q g).1
        show s.heap.size ≤ q.base
        omega
  have hvv : v1 = some v := by
    have := Outcome.returned.inj hv1
    rw [this]
    show some (aw_v _ v) = some v
    rw [hv]
  subst hvv
  obtain ⟨t2, a1, b1⟩ := k T'.heap (locs ++ Lc) ls (by rw [e1]; exact hP') (by rw [e1]; exact hK2) hS' hl T' rfl X'
  exact ⟨t2, stp t2 a1, b1⟩
set_option maxRecDepth 20000 in
theorem lj_callM {y : MethodName} {cy : ByteArray} {nLy d md index na : Nat} {rt : Option FieldType} {av : List Value} {v : Value} {ν' : me_M} (C : lj_C p s m meth c b Lx xs D dA) (hd : decode code pc = .ok (.invokevirtual index, 3)) (hp : pc + 3 = pc') (X : aw_wV "ArcTapeLaw" index y cy nLy rt na 7 "ArcTapeModel" ft_M 29) (hM : AM y cy nLy rt d md 0 0 (.ref 0 :: av) (hM ν) (aw_is (some v) (hM ν'))) (hmd : md = 0 ∨ md = 2) (hn : av.length = na) (hR : lj_room d nLy) (hav : ∀ z, av.map (aw_v z) = av) (hv : ∀ z, aw_v z v = v) (hst : (st.map fun v => v.category).sum ≤ 8) (k : LJ p l e s m below meth c b D dA n pc' i (v :: st) μ ν') : LJ p l e s m below meth c b D dA n pc i (av.reverse ++ .ref (s.heap.size + 24) :: st) μ ν := by
  subst hp
  intro H locs ls P1 P2 S hl
  obtain ⟨hcw, hini, hlk, hins, hsel, hc, hy, hnl⟩ := X
  have hts := lj_ws C
  have hmd' : aw_md md false := ⟨fun q => by omega, fun _ => rfl⟩
  have hr := va_runV (R := room_1) (g := F0 m pc ls (av.reverse ++ .ref (s.heap.size + 24) :: st)) (b := (s.heap.size + 24)) (C := "ArcTapeModel") (As := av) (Ts := wsAll) (H := H) (locs := locs) (cells := 600000) (slots := 7302250) (below := below) (meth := meth) (e := e) (rest := st) ⟨C.1.1, C.1.2.1, C.1.2.2.2.1, C.1.2.2.2.2.1, hts⟩ (hM l D dA (s.heap.size + 24) 16 false hmd') ⟨callB_of na hts (aw_goodC hcw) rfl rfl rfl (hts _ hini) (hts _ hlk) hy ⟨hR.1, hR.2⟩, hts _ hins, hts _ hsel⟩ ⟨aw_blind, va_recv C.2.1.nil (P2.one hM_0) hc (q0 := 0) rfl, fun U hU hW => ⟨by show _ = (List.map (aw_v (s.heap.size + 24)) (Value.ref 0 :: av)).toArray; rw [List.map_cons, hav]; rfl, by rw [hU]; exact P2, C.2.1.moved hW.alike, C.2.2.warm hW⟩⟩ rfl hn hl.1 rfl (by show 2 * 0 + _ ≤ _; omega) hd ⟨Nat.le_refl _, Nat.le_refl _⟩
  intro T hT X
  obtain ⟨v1, st₀, t, T', Lc, h0, X', hLc, e1, e2, ⟨⟨v0, h', hv1, ⟨rfl, rfl⟩, hP'⟩, hz, hk⟩, stp⟩ := hr T hT X
  rw [h0] at hz hk
  have hK2 := lj_keep P1 hk (fun k hk24 => lj_notB hk24)
  have hS' : va_S (fun q => s.heap.size ≤ q) s.heap T'.heap (locs ++ Lc) := by
    refine ⟨Nat.le_trans S.1 (by rw [e1]; exact hz), fun q g1 g2 => ?_, fun q hq' => ?_⟩
    · rw [e1, hk q (Nat.lt_of_lt_of_le g1 S.1) (fun a => g2 (by have := a.1; omega))]
      exact S.2.1 q g1 g2
    · rcases List.mem_append.mp hq' with g | g
      · exact S.2.2 q g
      · have := (hLc q g).1
        show s.heap.size ≤ q.base
        omega
  have hvv : v1 = some v := by
    have := Outcome.returned.inj hv1
    rw [this]
    show some (aw_v _ v) = some v
    rw [hv]
  subst hvv
  obtain ⟨t2, a1, b1⟩ := k T'.heap (locs ++ Lc) ls (by rw [e1]; exact hK2) (by rw [e1]; exact hP') hS' hl T' rfl X'
  exact ⟨t2, stp t2 a1, b1⟩
set_option maxRecDepth 20000 in
theorem lj_case0 {N j : Nat} {r : Int32} {μ' : me_M} {ν' : me_M} (C : lj_C p s m meth c b Lx xs D dA) (hLx : Lx < 2 ^ 31) (hj : j + 5 ≤ Lx) (hC : fA_add N n (xs (j + 1)) (xs (j + 2)) μ = some (r, μ')) (hM : fM_add N (xs (j + 1)) (xs (j + 2)) ν = some (r, ν')) (k : LJ p l e s m below meth c b D dA n 605 (nI j) [] μ' ν') : LJ p l e s m below meth c b D dA n 128 (nI j) [] μ ν := by
  refine lj_al1 (pc' := 129) C d_L_128 rfl ?_
  refine lj_arg (pc' := 134) 1 C d_L_129 d_L_130 d_L_131 d_L_132 d_L_133 rfl kc_ic_1 (by omega) (by omega) ?_
  refine lj_arg (pc' := 139) 2 C d_L_134 d_L_135 d_L_136 d_L_137 d_L_138 rfl kc_ic_2 (by omega) (by omega) ?_
  refine lj_callC (pc' := 142) (av := [.int (xs (j + 1)), .int (xs (j + 2))]) C d_L_139 rfl wc_L_21 (mA_add hC) (Or.inl rfl) rfl ⟨by decide, by decide⟩ (fun _ => rfl) (fun _ => rfl) (Nat.le_of_ble_eq_true rfl) ?_
  refine lj_al2 (pc' := 143) C d_L_142 rfl ?_
  refine lj_arg (pc' := 148) 1 C d_L_143 d_L_144 d_L_145 d_L_146 d_L_147 rfl kc_ic_1 (by omega) (by omega) ?_
  refine lj_arg (pc' := 153) 2 C d_L_148 d_L_149 d_L_150 d_L_151 d_L_152 rfl kc_ic_2 (by omega) (by omega) ?_
  refine lj_callM (pc' := 156) (av := [.int (xs (j + 1)), .int (xs (j + 2))]) C d_L_153 rfl wc_L_25 (mM_add hM) (Or.inl rfl) rfl ⟨by decide, by decide⟩ (fun _ => rfl) (fun _ => rfl) (Nat.le_of_ble_eq_true rfl) ?_
  exact lj_same C d_L_156 (by decide) k
set_option maxRecDepth 20000 in
theorem lj_case1 {N j : Nat} {r : Int32} {μ' : me_M} {ν' : me_M} (C : lj_C p s m meth c b Lx xs D dA) (hLx : Lx < 2 ^ 31) (hj : j + 5 ≤ Lx) (hC : fA_drop N n (xs (j + 1)) (xs (j + 2)) μ = some (r, μ')) (hM : fM_drop N (xs (j + 1)) (xs (j + 2)) ν = some (r, ν')) (k : LJ p l e s m below meth c b D dA n 605 (nI j) [] μ' ν') : LJ p l e s m below meth c b D dA n 161 (nI j) [] μ ν := by
  refine lj_al1 (pc' := 162) C d_L_161 rfl ?_
  refine lj_arg (pc' := 167) 1 C d_L_162 d_L_163 d_L_164 d_L_165 d_L_166 rfl kc_ic_1 (by omega) (by omega) ?_
  refine lj_arg (pc' := 172) 2 C d_L_167 d_L_168 d_L_169 d_L_170 d_L_171 rfl kc_ic_2 (by omega) (by omega) ?_
  refine lj_callC (pc' := 175) (av := [.int (xs (j + 1)), .int (xs (j + 2))]) C d_L_172 rfl wc_L_26 (mA_drop hC) (Or.inl rfl) rfl ⟨by decide, by decide⟩ (fun _ => rfl) (fun _ => rfl) (Nat.le_of_ble_eq_true rfl) ?_
  refine lj_al2 (pc' := 176) C d_L_175 rfl ?_
  refine lj_arg (pc' := 181) 1 C d_L_176 d_L_177 d_L_178 d_L_179 d_L_180 rfl kc_ic_1 (by omega) (by omega) ?_
  refine lj_arg (pc' := 186) 2 C d_L_181 d_L_182 d_L_183 d_L_184 d_L_185 rfl kc_ic_2 (by omega) (by omega) ?_
  refine lj_callM (pc' := 189) (av := [.int (xs (j + 1)), .int (xs (j + 2))]) C d_L_186 rfl wc_L_29 (mM_drop hM) (Or.inl rfl) rfl ⟨by decide, by decide⟩ (fun _ => rfl) (fun _ => rfl) (Nat.le_of_ble_eq_true rfl) ?_
  exact lj_same C d_L_189 (by decide) k
set_option maxRecDepth 20000 in
theorem lj_case2 {N j : Nat} {r : Int32} {μ' : me_M} {ν' : me_M} (C : lj_C p s m meth c b Lx xs D dA) (hLx : Lx < 2 ^ 31) (hj : j + 5 ≤ Lx) (hC : fA_pack N n (xs (j + 1)) (xs (j + 2)) (xs (j + 3)) (xs (j + 4)) μ = some (r, μ')) (hM : fM_pack N (xs (j + 1)) (xs (j + 2)) (xs (j + 3)) (xs (j + 4)) ν = some (r, ν')) (k : LJ p l e s m below meth c b D dA n 605 (nI j) [] μ' ν') : LJ p l e s m below meth c b D dA n 194 (nI j) [] μ ν := by
  refine lj_al1 (pc' := 195) C d_L_194 rfl ?_
  refine lj_arg (pc' := 200) 1 C d_L_195 d_L_196 d_L_197 d_L_198 d_L_199 rfl kc_ic_1 (by omega) (by omega) ?_
  refine lj_arg (pc' := 205) 2 C d_L_200 d_L_201 d_L_202 d_L_203 d_L_204 rfl kc_ic_2 (by omega) (by omega) ?_
  refine lj_arg (pc' := 210) 3 C d_L_205 d_L_206 d_L_207 d_L_208 d_L_209 rfl kc_ic_3 (by omega) (by omega) ?_
  refine lj_arg (pc' := 215) 4 C d_L_210 d_L_211 d_L_212 d_L_213 d_L_214 rfl kc_ic_4 (by omega) (by omega) ?_
  refine lj_callC (pc' := 218) (av := [.int (xs (j + 1)), .int (xs (j + 2)), .int (xs (j + 3)), .int (xs (j + 4))]) C d_L_215 rfl wc_L_30 (mA_pack hC) (Or.inl rfl) rfl ⟨by decide, by decide⟩ (fun _ => rfl) (fun _ => rfl) (Nat.le_of_ble_eq_true rfl) ?_
  refine lj_al2 (pc' := 219) C d_L_218 rfl ?_
  refine lj_arg (pc' := 224) 1 C d_L_219 d_L_220 d_L_221 d_L_222 d_L_223 rfl kc_ic_1 (by omega) (by omega) ?_
  refine lj_arg (pc' := 229) 2 C d_L_224 d_L_225 d_L_226 d_L_227 d_L_228 rfl kc_ic_2 (by omega) (by omega) ?_
  refine lj_arg (pc' := 234) 3 C d_L_229 d_L_230 d_L_231 d_L_232 d_L_233 rfl kc_ic_3 (by omega) (by omega) ?_
  refine lj_arg (pc' := 239) 4 C d_L_234 d_L_235 d_L_236 d_L_237 d_L_238 rfl kc_ic_4 (by omega) (by omega) ?_
  refine lj_callM (pc' := 242) (av := [.int (xs (j + 1)), .int (xs (j + 2)), .int (xs (j + 3)), .int (xs (j + 4))]) C d_L_239 rfl wc_L_34 (mM_pack hM) (Or.inl rfl) rfl ⟨by decide, by decide⟩ (fun _ => rfl) (fun _ => rfl) (Nat.le_of_ble_eq_true rfl) ?_
  exact lj_same C d_L_242 (by decide) k
set_option maxRecDepth 20000 in
theorem lj_case3 {N j : Nat} {r : Int32} (C : lj_C p s m meth c b Lx xs D dA) (hLx : Lx < 2 ^ 31) (hj : j + 5 ≤ Lx) (hC : fA_offset N n μ (xs (j + 1)) = some r) (hM : fM_offset N ν (xs (j + 1)) = some r) (k : LJ p l e s m below meth c b D dA n 605 (nI j) [] μ ν) : LJ p l e s m below meth c b D dA n 247 (nI j) [] μ ν := by
  refine lj_al1 (pc' := 248) C d_L_247 rfl ?_
  refine lj_arg (pc' := 253) 1 C d_L_248 d_L_249 d_L_250 d_L_251 d_L_252 rfl kc_ic_1 (by omega) (by omega) ?_
  refine lj_callC (pc' := 256) (av := [.int (xs (j + 1))]) C d_L_253 rfl wc_L_35 (mA_offset hC) (Or.inl rfl) rfl ⟨by decide, by decide⟩ (fun _ => rfl) (fun _ => rfl) (Nat.le_of_ble_eq_true rfl) ?_
  refine lj_al2 (pc' := 257) C d_L_256 rfl ?_
  refine lj_arg (pc' := 262) 1 C d_L_257 d_L_258 d_L_259 d_L_260 d_L_261 rfl kc_ic_1 (by omega) (by omega) ?_
  refine lj_callM (pc' := 265) (av := [.int (xs (j + 1))]) C d_L_262 rfl wc_L_39 (mM_offset hM) (Or.inl rfl) rfl ⟨by decide, by decide⟩ (fun _ => rfl) (fun _ => rfl) (Nat.le_of_ble_eq_true rfl) ?_
  exact lj_same C d_L_265 (by decide) k
set_option maxRecDepth 20000 in
theorem lj_case4 {N j : Nat} {r : Int32} (C : lj_C p s m meth c b Lx xs D dA) (hLx : Lx < 2 ^ 31) (hj : j + 5 ≤ Lx) (hC : fA_bit N n μ (xs (j + 1)) = some r) (hM : fM_bit N ν (xs (j + 1)) = some r) (k : LJ p l e s m below meth c b D dA n 605 (nI j) [] μ ν) : LJ p l e s m below meth c b D dA n 270 (nI j) [] μ ν := by
  refine lj_al1 (pc' := 271) C d_L_270 rfl ?_
  refine lj_arg (pc' := 276) 1 C d_L_271 d_L_272 d_L_273 d_L_274 d_L_275 rfl kc_ic_1 (by omega) (by omega) ?_
  refine lj_callC (pc' := 279) (av := [.int (xs (j + 1))]) C d_L_276 rfl wc_L_40 (mA_bit hC) (Or.inl rfl) rfl ⟨by decide, by decide⟩ (fun _ => rfl) (fun _ => rfl) (Nat.le_of_ble_eq_true rfl) ?_
  refine lj_al2 (pc' := 280) C d_L_279 rfl ?_
  refine lj_arg (pc' := 285) 1 C d_L_280 d_L_281 d_L_282 d_L_283 d_L_284 rfl kc_ic_1 (by omega) (by omega) ?_
  refine lj_callM (pc' := 288) (av := [.int (xs (j + 1))]) C d_L_285 rfl wc_L_43 (mM_bit hM) (Or.inl rfl) rfl ⟨by decide, by decide⟩ (fun _ => rfl) (fun _ => rfl) (Nat.le_of_ble_eq_true rfl) ?_
  exact lj_same C d_L_288 (by decide) k
set_option maxRecDepth 20000 in
theorem lj_case5 {N j : Nat} {r : Int32} {μ' : me_M} {ν' : me_M} (C : lj_C p s m meth c b Lx xs D dA) (hLx : Lx < 2 ^ 31) (hj : j + 5 ≤ Lx) (hC : fA_flip N n (xs (j + 1)) μ = some (r, μ')) (hM : fM_flip N (xs (j + 1)) ν = some (r, ν')) (k : LJ p l e s m below meth c b D dA n 605 (nI j) [] μ' ν') : LJ p l e s m below meth c b D dA n 293 (nI j) [] μ ν := by
  refine lj_al1 (pc' := 294) C d_L_293 rfl ?_
  refine lj_arg (pc' := 299) 1 C d_L_294 d_L_295 d_L_296 d_L_297 d_L_298 rfl kc_ic_1 (by omega) (by omega) ?_
  refine lj_callC (pc' := 302) (av := [.int (xs (j + 1))]) C d_L_299 rfl wc_L_44 (mA_flip hC) (Or.inl rfl) rfl ⟨by decide, by decide⟩ (fun _ => rfl) (fun _ => rfl) (Nat.le_of_ble_eq_true rfl) ?_
  refine lj_al2 (pc' := 303) C d_L_302 rfl ?_
  refine lj_arg (pc' := 308) 1 C d_L_303 d_L_304 d_L_305 d_L_306 d_L_307 rfl kc_ic_1 (by omega) (by omega) ?_
  refine lj_callM (pc' := 311) (av := [.int (xs (j + 1))]) C d_L_308 rfl wc_L_48 (mM_flip hM) (Or.inl rfl) rfl ⟨by decide, by decide⟩ (fun _ => rfl) (fun _ => rfl) (Nat.le_of_ble_eq_true rfl) ?_
  exact lj_same C d_L_311 (by decide) k
set_option maxRecDepth 20000 in
theorem lj_case6 {N j : Nat} {r : Int32} {ν' : me_M} (C : lj_C p s m meth c b Lx xs D dA) (hLx : Lx < 2 ^ 31) (hj : j + 5 ≤ Lx) (hC : fA_degree N n μ (xs (j + 1)) = some r) (hM : fM_degree N (xs (j + 1)) ν = some (r, ν')) (k : LJ p l e s m below meth c b D dA n 605 (nI j) [] μ ν') : LJ p l e s m below meth c b D dA n 316 (nI j) [] μ ν := by
  refine lj_al1 (pc' := 317) C d_L_316 rfl ?_
  refine lj_arg (pc' := 322) 1 C d_L_317 d_L_318 d_L_319 d_L_320 d_L_321 rfl kc_ic_1 (by omega) (by omega) ?_
  refine lj_callC (pc' := 325) (av := [.int (xs (j + 1))]) C d_L_322 rfl wc_L_49 (mA_degree hC) (Or.inl rfl) rfl ⟨by decide, by decide⟩ (fun _ => rfl) (fun _ => rfl) (Nat.le_of_ble_eq_true rfl) ?_
  refine lj_al2 (pc' := 326) C d_L_325 rfl ?_
  refine lj_arg (pc' := 331) 1 C d_L_326 d_L_327 d_L_328 d_L_329 d_L_330 rfl kc_ic_1 (by omega) (by omega) ?_
  refine lj_callM (pc' := 334) (av := [.int (xs (j + 1))]) C d_L_331 rfl wc_L_52 (mM_degree hM) (Or.inl rfl) rfl ⟨by decide, by decide⟩ (fun _ => rfl) (fun _ => rfl) (Nat.le_of_ble_eq_true rfl) ?_
  exact lj_same C d_L_334 (by decide) k
set_option maxRecDepth 20000 in
theorem lj_case7 {N j : Nat} {r : Int32} {ν' : me_M} (C : lj_C p s m meth c b Lx xs D dA) (hLx : Lx < 2 ^ 31) (hj : j + 5 ≤ Lx) (hC : fA_successor N n μ (xs (j + 1)) (xs (j + 2)) = some r) (hM : fM_successor N (xs (j + 1)) (xs (j + 2)) ν = some (r, ν')) (k : LJ p l e s m below meth c b D dA n 605 (nI j) [] μ ν') : LJ p l e s m below meth c b D dA n 339 (nI j) [] μ ν := by
  refine lj_al1 (pc' := 340) C d_L_339 rfl ?_
  refine lj_arg (pc' := 345) 1 C d_L_340 d_L_341 d_L_342 d_L_343 d_L_344 rfl kc_ic_1 (by omega) (by omega) ?_
  refine lj_arg (pc' := 350) 2 C d_L_345 d_L_346 d_L_347 d_L_348 d_L_349 rfl kc_ic_2 (by omega) (by omega) ?_
  refine lj_callC (pc' := 353) (av := [.int (xs (j + 1)), .int (xs (j + 2))]) C d_L_350 rfl wc_L_53 (mA_successor hC) (Or.inl rfl) rfl ⟨by decide, by decide⟩ (fun _ => rfl) (fun _ => rfl) (Nat.le_of_ble_eq_true rfl) ?_
  refine lj_al2 (pc' := 354) C d_L_353 rfl ?_
  refine lj_arg (pc' := 359) 1 C d_L_354 d_L_355 d_L_356 d_L_357 d_L_358 rfl kc_ic_1 (by omega) (by omega) ?_
  refine lj_arg (pc' := 364) 2 C d_L_359 d_L_360 d_L_361 d_L_362 d_L_363 rfl kc_ic_2 (by omega) (by omega) ?_
  refine lj_callM (pc' := 367) (av := [.int (xs (j + 1)), .int (xs (j + 2))]) C d_L_364 rfl wc_L_57 (mM_successor hM) (Or.inl rfl) rfl ⟨by decide, by decide⟩ (fun _ => rfl) (fun _ => rfl) (Nat.le_of_ble_eq_true rfl) ?_
  exact lj_same C d_L_367 (by decide) k
set_option maxRecDepth 20000 in
theorem lj_case8 {N j : Nat} {r : Int32} {ν' : me_M} (C : lj_C p s m meth c b Lx xs D dA) (hLx : Lx < 2 ^ 31) (hj : j + 5 ≤ Lx) (hC : fA_reference N n μ (xs (j + 1)) = some r) (hM : fM_reference N (xs (j + 1)) ν = some (r, ν')) (k : LJ p l e s m below meth c b D dA n 605 (nI j) [] μ ν') : LJ p l e s m below meth c b D dA n 372 (nI j) [] μ ν := by
  refine lj_al1 (pc' := 373) C d_L_372 rfl ?_
  refine lj_arg (pc' := 378) 1 C d_L_373 d_L_374 d_L_375 d_L_376 d_L_377 rfl kc_ic_1 (by omega) (by omega) ?_
  refine lj_callC (pc' := 381) (av := [.int (xs (j + 1))]) C d_L_378 rfl wc_L_58 (mA_reference hC) (Or.inl rfl) rfl ⟨by decide, by decide⟩ (fun _ => rfl) (fun _ => rfl) (Nat.le_of_ble_eq_true rfl) ?_
  refine lj_al2 (pc' := 382) C d_L_381 rfl ?_
  refine lj_arg (pc' := 387) 1 C d_L_382 d_L_383 d_L_384 d_L_385 d_L_386 rfl kc_ic_1 (by omega) (by omega) ?_
  refine lj_callM (pc' := 390) (av := [.int (xs (j + 1))]) C d_L_387 rfl wc_L_61 (mM_reference hM) (Or.inl rfl) rfl ⟨by decide, by decide⟩ (fun _ => rfl) (fun _ => rfl) (Nat.le_of_ble_eq_true rfl) ?_
  exact lj_same C d_L_390 (by decide) k
set_option maxRecDepth 20000 in
theorem lj_case9 {N j : Nat} {r : Int32} {μ' : me_M} {ν' : me_M} (C : lj_C p s m meth c b Lx xs D dA) (hLx : Lx < 2 ^ 31) (hj : j + 5 ≤ Lx) (hC : fA_components N n μ = some (r, μ')) (hM : fM_components N ν = some (r, ν')) (k : LJ p l e s m below meth c b D dA n 605 (nI j) [] μ' ν') : LJ p l e s m below meth c b D dA n 395 (nI j) [] μ ν := by
  refine lj_al1 (pc' := 396) C d_L_395 rfl ?_
  refine lj_callC (pc' := 399) (av := []) C d_L_396 rfl wc_L_62 (mA_components hC) (Or.inl rfl) rfl ⟨by decide, by decide⟩ (fun _ => rfl) (fun _ => rfl) (Nat.le_of_ble_eq_true rfl) ?_
  refine lj_al2 (pc' := 400) C d_L_399 rfl ?_
  refine lj_callM (pc' := 403) (av := []) C d_L_400 rfl wc_L_66 (mM_components hM) (Or.inl rfl) rfl ⟨by decide, by decide⟩ (fun _ => rfl) (fun _ => rfl) (Nat.le_of_ble_eq_true rfl) ?_
  exact lj_same C d_L_403 (by decide) k
set_option maxRecDepth 20000 in
theorem lj_case10 {N j : Nat} {r : Int32} {μ' : me_M} {ν' : me_M} (C : lj_C p s m meth c b Lx xs D dA) (hLx : Lx < 2 ^ 31) (hj : j + 5 ≤ Lx) (hC : fA_component N n (xs (j + 1)) μ = some (r, μ')) (hM : fM_component N (xs (j + 1)) ν = some (r, ν')) (k : LJ p l e s m below meth c b D dA n 605 (nI j) [] μ' ν') : LJ p l e s m below meth c b D dA n 408 (nI j) [] μ ν := by
  refine lj_al1 (pc' := 409) C d_L_408 rfl ?_
  refine lj_arg (pc' := 414) 1 C d_L_409 d_L_410 d_L_411 d_L_412 d_L_413 rfl kc_ic_1 (by omega) (by omega) ?_
  refine lj_callC (pc' := 417) (av := [.int (xs (j + 1))]) C d_L_414 rfl wc_L_67 (mA_component hC) (Or.inl rfl) rfl ⟨by decide, by decide⟩ (fun _ => rfl) (fun _ => rfl) (Nat.le_of_ble_eq_true rfl) ?_
  refine lj_al2 (pc' := 418) C d_L_417 rfl ?_
  refine lj_arg (pc' := 423) 1 C d_L_418 d_L_419 d_L_420 d_L_421 d_L_422 rfl kc_ic_1 (by omega) (by omega) ?_
  refine lj_callM (pc' := 426) (av := [.int (xs (j + 1))]) C d_L_423 rfl wc_L_70 (mM_component hM) (Or.inl rfl) rfl ⟨by decide, by decide⟩ (fun _ => rfl) (fun _ => rfl) (Nat.le_of_ble_eq_true rfl) ?_
  exact lj_same C d_L_426 (by decide) k
set_option maxRecDepth 20000 in
theorem lj_case11 {N j : Nat} {r : Int32} {μ' : me_M} {ν' : me_M} (C : lj_C p s m meth c b Lx xs D dA) (hLx : Lx < 2 ^ 31) (hj : j + 5 ≤ Lx) (hC : fA_prefer N n (xs (j + 1)) (xs (j + 2)) μ = some (r, μ')) (hM : fM_prefer N (xs (j + 1)) (xs (j + 2)) ν = some (r, ν')) (k : LJ p l e s m below meth c b D dA n 605 (nI j) [] μ' ν') : LJ p l e s m below meth c b D dA n 431 (nI j) [] μ ν := by
  refine lj_al1 (pc' := 432) C d_L_431 rfl ?_
  refine lj_arg (pc' := 437) 1 C d_L_432 d_L_433 d_L_434 d_L_435 d_L_436 rfl kc_ic_1 (by omega) (by omega) ?_
  refine lj_arg (pc' := 442) 2 C d_L_437 d_L_438 d_L_439 d_L_440 d_L_441 rfl kc_ic_2 (by omega) (by omega) ?_
  refine lj_callC (pc' := 445) (av := [.int (xs (j + 1)), .int (xs (j + 2))]) C d_L_442 rfl wc_L_71 (mA_prefer hC) (Or.inl rfl) rfl ⟨by decide, by decide⟩ (fun _ => rfl) (fun _ => rfl) (Nat.le_of_ble_eq_true rfl) ?_
  refine lj_al2 (pc' := 446) C d_L_445 rfl ?_
  refine lj_arg (pc' := 451) 1 C d_L_446 d_L_447 d_L_448 d_L_449 d_L_450 rfl kc_ic_1 (by omega) (by omega) ?_
  refine lj_arg (pc' := 456) 2 C d_L_451 d_L_452 d_L_453 d_L_454 d_L_455 rfl kc_ic_2 (by omega) (by omega) ?_
  refine lj_callM (pc' := 459) (av := [.int (xs (j + 1)), .int (xs (j + 2))]) C d_L_456 rfl wc_L_74 (mM_prefer hM) (Or.inl rfl) rfl ⟨by decide, by decide⟩ (fun _ => rfl) (fun _ => rfl) (Nat.le_of_ble_eq_true rfl) ?_
  exact lj_same C d_L_459 (by decide) k
set_option maxRecDepth 20000 in
theorem lj_case12 {N j : Nat} {r : Int32} {μ' : me_M} {ν' : me_M} (C : lj_C p s m meth c b Lx xs D dA) (hLx : Lx < 2 ^ 31) (hj : j + 5 ≤ Lx) (hC : fA_start N n (xs (j + 1)) (xs (j + 2)) μ = some (r, μ')) (hM : fM_start N (xs (j + 1)) (xs (j + 2)) ν = some (r, ν')) (k : LJ p l e s m below meth c b D dA n 605 (nI j) [] μ' ν') : LJ p l e s m below meth c b D dA n 464 (nI j) [] μ ν := by
  refine lj_al1 (pc' := 465) C d_L_464 rfl ?_
  refine lj_arg (pc' := 470) 1 C d_L_465 d_L_466 d_L_467 d_L_468 d_L_469 rfl kc_ic_1 (by omega) (by omega) ?_
  refine lj_arg (pc' := 475) 2 C d_L_470 d_L_471 d_L_472 d_L_473 d_L_474 rfl kc_ic_2 (by omega) (by omega) ?_
  refine lj_callC (pc' := 478) (av := [.int (xs (j + 1)), .int (xs (j + 2))]) C d_L_475 rfl wc_L_75 (mA_start hC) (Or.inl rfl) rfl ⟨by decide, by decide⟩ (fun _ => rfl) (fun _ => rfl) (Nat.le_of_ble_eq_true rfl) ?_
  refine lj_al2 (pc' := 479) C d_L_478 rfl ?_
  refine lj_arg (pc' := 484) 1 C d_L_479 d_L_480 d_L_481 d_L_482 d_L_483 rfl kc_ic_1 (by omega) (by omega) ?_
  refine lj_arg (pc' := 489) 2 C d_L_484 d_L_485 d_L_486 d_L_487 d_L_488 rfl kc_ic_2 (by omega) (by omega) ?_
  refine lj_callM (pc' := 492) (av := [.int (xs (j + 1)), .int (xs (j + 2))]) C d_L_489 rfl wc_L_78 (mM_start hM) (Or.inl rfl) rfl ⟨by decide, by decide⟩ (fun _ => rfl) (fun _ => rfl) (Nat.le_of_ble_eq_true rfl) ?_
  exact lj_same C d_L_492 (by decide) k
set_option maxRecDepth 20000 in
theorem lj_case13 {N j : Nat} {r : Int32} {μ' : me_M} {ν' : me_M} (C : lj_C p s m meth c b Lx xs D dA) (hLx : Lx < 2 ^ 31) (hj : j + 5 ≤ Lx) (hC : fA_step N n (xs (j + 1)) μ = some (r, μ')) (hM : fM_step N (xs (j + 1)) ν = some (r, ν')) (k : LJ p l e s m below meth c b D dA n 605 (nI j) [] μ' ν') : LJ p l e s m below meth c b D dA n 497 (nI j) [] μ ν := by
  refine lj_al1 (pc' := 498) C d_L_497 rfl ?_
  refine lj_arg (pc' := 503) 1 C d_L_498 d_L_499 d_L_500 d_L_501 d_L_502 rfl kc_ic_1 (by omega) (by omega) ?_
  refine lj_callC (pc' := 506) (av := [.int (xs (j + 1))]) C d_L_503 rfl wc_L_79 (mA_step hC) (Or.inr rfl) rfl ⟨by decide, by decide⟩ (fun _ => rfl) (fun _ => rfl) (Nat.le_of_ble_eq_true rfl) ?_
  refine lj_al2 (pc' := 507) C d_L_506 rfl ?_
  refine lj_arg (pc' := 512) 1 C d_L_507 d_L_508 d_L_509 d_L_510 d_L_511 rfl kc_ic_1 (by omega) (by omega) ?_
  refine lj_callM (pc' := 515) (av := [.int (xs (j + 1))]) C d_L_512 rfl wc_L_82 (mM_step hM) (Or.inl rfl) rfl ⟨by decide, by decide⟩ (fun _ => rfl) (fun _ => rfl) (Nat.le_of_ble_eq_true rfl) ?_
  exact lj_same C d_L_515 (by decide) k
set_option maxRecDepth 20000 in
theorem lj_case14 {N j : Nat} {r : Int64} (C : lj_C p s m meth c b Lx xs D dA) (hLx : Lx < 2 ^ 31) (hj : j + 5 ≤ Lx) (hC : fA_score N n μ (xs (j + 1)) = some r) (hM : fM_score N ν (xs (j + 1)) = some r) (k : LJ p l e s m below meth c b D dA n 605 (nI j) [] μ ν) : LJ p l e s m below meth c b D dA n 520 (nI j) [] μ ν := by
  refine lj_al1 (pc' := 521) C d_L_520 rfl ?_
  refine lj_arg (pc' := 526) 1 C d_L_521 d_L_522 d_L_523 d_L_524 d_L_525 rfl kc_ic_1 (by omega) (by omega) ?_
  refine lj_callC (pc' := 529) (av := [.int (xs (j + 1))]) C d_L_526 rfl wc_L_83 (mA_score hC) (Or.inl rfl) rfl ⟨by decide, by decide⟩ (fun _ => rfl) (fun _ => rfl) (Nat.le_of_ble_eq_true rfl) ?_
  refine lj_al2 (pc' := 530) C d_L_529 rfl ?_
  refine lj_arg (pc' := 535) 1 C d_L_530 d_L_531 d_L_532 d_L_533 d_L_534 rfl kc_ic_1 (by omega) (by omega) ?_
  refine lj_callM (pc' := 538) (av := [.int (xs (j + 1))]) C d_L_535 rfl wc_L_87 (mM_score hM) (Or.inl rfl) rfl ⟨by decide, by decide⟩ (fun _ => rfl) (fun _ => rfl) (Nat.le_of_ble_eq_true rfl) ?_
  refine lj_lcmp (pc' := 539) C d_L_538 rfl ?_
  exact lj_zero C d_L_539 (by decide) k
set_option maxRecDepth 20000 in
theorem lj_case15 {N j : Nat} {r : Int64} (C : lj_C p s m meth c b Lx xs D dA) (hLx : Lx < 2 ^ 31) (hj : j + 5 ≤ Lx) (hC : fA_hub N n μ (xs (j + 1)) = some r) (hM : fM_hub N ν (xs (j + 1)) = some r) (k : LJ p l e s m below meth c b D dA n 605 (nI j) [] μ ν) : LJ p l e s m below meth c b D dA n 544 (nI j) [] μ ν := by
  refine lj_al1 (pc' := 545) C d_L_544 rfl ?_
  refine lj_arg (pc' := 550) 1 C d_L_545 d_L_546 d_L_547 d_L_548 d_L_549 rfl kc_ic_1 (by omega) (by omega) ?_
  refine lj_callC (pc' := 553) (av := [.int (xs (j + 1))]) C d_L_550 rfl wc_L_88 (mA_hub hC) (Or.inl rfl) rfl ⟨by decide, by decide⟩ (fun _ => rfl) (fun _ => rfl) (Nat.le_of_ble_eq_true rfl) ?_
  refine lj_al2 (pc' := 554) C d_L_553 rfl ?_
  refine lj_arg (pc' := 559) 1 C d_L_554 d_L_555 d_L_556 d_L_557 d_L_558 rfl kc_ic_1 (by omega) (by omega) ?_
  refine lj_callM (pc' := 562) (av := [.int (xs (j + 1))]) C d_L_559 rfl wc_L_91 (mM_hub hM) (Or.inl rfl) rfl ⟨by decide, by decide⟩ (fun _ => rfl) (fun _ => rfl) (Nat.le_of_ble_eq_true rfl) ?_
  refine lj_lcmp (pc' := 563) C d_L_562 rfl ?_
  exact lj_zero C d_L_563 (by decide) k
set_option maxRecDepth 20000 in
theorem lj_case16 {N j : Nat} {r : Int32} (C : lj_C p s m meth c b Lx xs D dA) (hLx : Lx < 2 ^ 31) (hj : j + 5 ≤ Lx) (hC : fA_top N n μ (xs (j + 1)) = some r) (hM : fM_top N ν (xs (j + 1)) = some r) (k : LJ p l e s m below meth c b D dA n 605 (nI j) [] μ ν) : LJ p l e s m below meth c b D dA n 568 (nI j) [] μ ν := by
  refine lj_al1 (pc' := 569) C d_L_568 rfl ?_
  refine lj_arg (pc' := 574) 1 C d_L_569 d_L_570 d_L_571 d_L_572 d_L_573 rfl kc_ic_1 (by omega) (by omega) ?_
  refine lj_callC (pc' := 577) (av := [.int (xs (j + 1))]) C d_L_574 rfl wc_L_92 (mA_top hC) (Or.inl rfl) rfl ⟨by decide, by decide⟩ (fun _ => rfl) (fun _ => rfl) (Nat.le_of_ble_eq_true rfl) ?_
  refine lj_al2 (pc' := 578) C d_L_577 rfl ?_
  refine lj_arg (pc' := 583) 1 C d_L_578 d_L_579 d_L_580 d_L_581 d_L_582 rfl kc_ic_1 (by omega) (by omega) ?_
  refine lj_callM (pc' := 586) (av := [.int (xs (j + 1))]) C d_L_583 rfl wc_L_95 (mM_top hM) (Or.inl rfl) rfl ⟨by decide, by decide⟩ (fun _ => rfl) (fun _ => rfl) (Nat.le_of_ble_eq_true rfl) ?_
  exact lj_same C d_L_586 (by decide) k
set_option maxRecDepth 20000 in
theorem lj_case17 {N j : Nat} {r : Int64} (C : lj_C p s m meth c b Lx xs D dA) (hLx : Lx < 2 ^ 31) (hj : j + 5 ≤ Lx) (hC : fA_change N n μ = some r) (hM : fM_change N ν = some r) (k : LJ p l e s m below meth c b D dA n 605 (nI j) [] μ ν) : LJ p l e s m below meth c b D dA n 591 (nI j) [] μ ν := by
  refine lj_al1 (pc' := 592) C d_L_591 rfl ?_
  refine lj_callC (pc' := 595) (av := []) C d_L_592 rfl wc_L_96 (mA_change hC) (Or.inl rfl) rfl ⟨by decide, by decide⟩ (fun _ => rfl) (fun _ => rfl) (Nat.le_of_ble_eq_true rfl) ?_
  refine lj_al2 (pc' := 596) C d_L_595 rfl ?_
  refine lj_callM (pc' := 599) (av := []) C d_L_596 rfl wc_L_100 (mM_change hM) (Or.inl rfl) rfl ⟨by decide, by decide⟩ (fun _ => rfl) (fun _ => rfl) (Nat.le_of_ble_eq_true rfl) ?_
  refine lj_lcmp (pc' := 600) C d_L_599 rfl ?_
  exact lj_zero C d_L_600 (by decide) k
def lj_ops (N : Nat) (Rel : Nat → me_M → me_M → Prop) : Prop := (∀ (n : Nat) (μ ν : me_M) (a1 a2 : Int32), Rel n μ ν → ∃ (r : Int32) (μ' : me_M) (ν' : me_M), fA_add N n a1 a2 μ = some (r, μ') ∧ fM_add N a1 a2 ν = some (r, ν') ∧ Rel n μ' ν') ∧
  (∀ (n : Nat) (μ ν : me_M) (a1 a2 : Int32), Rel n μ ν → ∃ (r : Int32) (μ' : me_M) (ν' : me_M), fA_drop N n a1 a2 μ = some (r, μ') ∧ fM_drop N a1 a2 ν = some (r, ν') ∧ Rel n μ' ν') ∧
  (∀ (n : Nat) (μ ν : me_M) (a1 a2 a3 a4 : Int32), Rel n μ ν → ∃ (r : Int32) (μ' : me_M) (ν' : me_M), fA_pack N n a1 a2 a3 a4 μ = some (r, μ') ∧ fM_pack N a1 a2 a3 a4 ν = some (r, ν') ∧ Rel n μ' ν') ∧
  (∀ (n : Nat) (μ ν : me_M) (a1 : Int32), Rel n μ ν → ∃ (r : Int32), fA_offset N n μ a1 = some r ∧ fM_offset N ν a1 = some r ∧ Rel n μ ν) ∧
  (∀ (n : Nat) (μ ν : me_M) (a1 : Int32), Rel n μ ν → ∃ (r : Int32), fA_bit N n μ a1 = some r ∧ fM_bit N ν a1 = some r ∧ Rel n μ ν) ∧
  (∀ (n : Nat) (μ ν : me_M) (a1 : Int32), Rel n μ ν → ∃ (r : Int32) (μ' : me_M) (ν' : me_M), fA_flip N n a1 μ = some (r, μ') ∧ fM_flip N a1 ν = some (r, ν') ∧ Rel n μ' ν') ∧
  (∀ (n : Nat) (μ ν : me_M) (a1 : Int32), Rel n μ ν → ∃ (r : Int32) (ν' : me_M), fA_degree N n μ a1 = some r ∧ fM_degree N a1 ν = some (r, ν') ∧ Rel n μ ν') ∧
  (∀ (n : Nat) (μ ν : me_M) (a1 a2 : Int32), Rel n μ ν → ∃ (r : Int32) (ν' : me_M), fA_successor N n μ a1 a2 = some r ∧ fM_successor N a1 a2 ν = some (r, ν') ∧ Rel n μ ν') ∧
  (∀ (n : Nat) (μ ν : me_M) (a1 : Int32), Rel n μ ν → ∃ (r : Int32) (ν' : me_M), fA_reference N n μ a1 = some r ∧ fM_reference N a1 ν = some (r, ν') ∧ Rel n μ ν') ∧
  (∀ (n : Nat) (μ ν : me_M), Rel n μ ν → ∃ (r : Int32) (μ' : me_M) (ν' : me_M), fA_components N n μ = some (r, μ') ∧ fM_components N ν = some (r, ν') ∧ Rel n μ' ν') ∧
  (∀ (n : Nat) (μ ν : me_M) (a1 : Int32), Rel n μ ν → ∃ (r : Int32) (μ' : me_M) (ν' : me_M), fA_component N n a1 μ = some (r, μ') ∧ fM_component N a1 ν = some (r, ν') ∧ Rel n μ' ν') ∧
  (∀ (n : Nat) (μ ν : me_M) (a1 a2 : Int32), Rel n μ ν → ∃ (r : Int32) (μ' : me_M) (ν' : me_M), fA_prefer N n a1 a2 μ = some (r, μ') ∧ fM_prefer N a1 a2 ν = some (r, ν') ∧ Rel n μ' ν') ∧
  (∀ (n : Nat) (μ ν : me_M) (a1 a2 : Int32), Rel n μ ν → ∃ (r : Int32) (μ' : me_M) (ν' : me_M), fA_start N n a1 a2 μ = some (r, μ') ∧ fM_start N a1 a2 ν = some (r, ν') ∧ Rel n μ' ν') ∧
  (∀ (n : Nat) (μ ν : me_M) (a1 : Int32), Rel n μ ν → ∃ (r : Int32) (μ' : me_M) (ν' : me_M), fA_step N n a1 μ = some (r, μ') ∧ fM_step N a1 ν = some (r, ν') ∧ Rel n μ' ν') ∧
  (∀ (n : Nat) (μ ν : me_M) (a1 : Int32), Rel n μ ν → ∃ (r : Int64), fA_score N n μ a1 = some r ∧ fM_score N ν a1 = some r ∧ Rel n μ ν) ∧
  (∀ (n : Nat) (μ ν : me_M) (a1 : Int32), Rel n μ ν → ∃ (r : Int64), fA_hub N n μ a1 = some r ∧ fM_hub N ν a1 = some r ∧ Rel n μ ν) ∧
  (∀ (n : Nat) (μ ν : me_M) (a1 : Int32), Rel n μ ν → ∃ (r : Int32), fA_top N n μ a1 = some r ∧ fM_top N ν a1 = some r ∧ Rel n μ ν) ∧
  (∀ (n : Nat) (μ ν : me_M), Rel n μ ν → ∃ (r : Int64), fA_change N n μ = some r ∧ fM_change N ν = some r ∧ Rel n μ ν)
set_option maxRecDepth 20000 in
theorem lj_sel0 {N j : Nat} {Rel : Nat → me_M → me_M → Prop} (C : lj_C p s m meth c b Lx xs D dA) (O : lj_ops N Rel) (hLx : Lx < 2 ^ 31) (hj : j + 5 ≤ Lx) (hR : Rel n μ ν) (k : ∀ μ' ν', Rel n μ' ν' → LJ p l e s m below meth c b D dA n 605 (nI j) [] μ' ν') : LJ p l e s m below meth c b D dA n 128 (nI j) [] μ ν := by
  obtain ⟨r, μ', ν', hA, hM, hR⟩ := (O.1) n μ ν (xs (j + 1)) (xs (j + 2)) hR
  exact lj_case0 C hLx hj hA hM (k _ _ hR)
set_option maxRecDepth 20000 in
theorem lj_sel1 {N j : Nat} {Rel : Nat → me_M → me_M → Prop} (C : lj_C p s m meth c b Lx xs D dA) (O : lj_ops N Rel) (hLx : Lx < 2 ^ 31) (hj : j + 5 ≤ Lx) (hR : Rel n μ ν) (k : ∀ μ' ν', Rel n μ' ν' → LJ p l e s m below meth c b D dA n 605 (nI j) [] μ' ν') : LJ p l e s m below meth c b D dA n 161 (nI j) [] μ ν := by
  obtain ⟨r, μ', ν', hA, hM, hR⟩ := (O.2.1) n μ ν (xs (j + 1)) (xs (j + 2)) hR
  exact lj_case1 C hLx hj hA hM (k _ _ hR)
set_option maxRecDepth 20000 in
theorem lj_sel2 {N j : Nat} {Rel : Nat → me_M → me_M → Prop} (C : lj_C p s m meth c b Lx xs D dA) (O : lj_ops N Rel) (hLx : Lx < 2 ^ 31) (hj : j + 5 ≤ Lx) (hR : Rel n μ ν) (k : ∀ μ' ν', Rel n μ' ν' → LJ p l e s m below meth c b D dA n 605 (nI j) [] μ' ν') : LJ p l e s m below meth c b D dA n 194 (nI j) [] μ ν := by
  obtain ⟨r, μ', ν', hA, hM, hR⟩ := (O.2.2.1) n μ ν (xs (j + 1)) (xs (j + 2)) (xs (j + 3)) (xs (j + 4)) hR
  exact lj_case2 C hLx hj hA hM (k _ _ hR)
set_option maxRecDepth 20000 in
theorem lj_sel3 {N j : Nat} {Rel : Nat → me_M → me_M → Prop} (C : lj_C p s m meth c b Lx xs D dA) (O : lj_ops N Rel) (hLx : Lx < 2 ^ 31) (hj : j + 5 ≤ Lx) (hR : Rel n μ ν) (k : ∀ μ' ν', Rel n μ' ν' → LJ p l e s m below meth c b D dA n 605 (nI j) [] μ' ν') : LJ p l e s m below meth c b D dA n 247 (nI j) [] μ ν := by
  obtain ⟨r, hA, hM, hR⟩ := (O.2.2.2.1) n μ ν (xs (j + 1)) hR
  exact lj_case3 C hLx hj hA hM (k _ _ hR)
set_option maxRecDepth 20000 in
theorem lj_sel4 {N j : Nat} {Rel : Nat → me_M → me_M → Prop} (C : lj_C p s m meth c b Lx xs D dA) (O : lj_ops N Rel) (hLx : Lx < 2 ^ 31) (hj : j + 5 ≤ Lx) (hR : Rel n μ ν) (k : ∀ μ' ν', Rel n μ' ν' → LJ p l e s m below meth c b D dA n 605 (nI j) [] μ' ν') : LJ p l e s m below meth c b D dA n 270 (nI j) [] μ ν := by
  obtain ⟨r, hA, hM, hR⟩ := (O.2.2.2.2.1) n μ ν (xs (j + 1)) hR
  exact lj_case4 C hLx hj hA hM (k _ _ hR)
set_option maxRecDepth 20000 in
theorem lj_sel5 {N j : Nat} {Rel : Nat → me_M → me_M → Prop} (C : lj_C p s m meth c b Lx xs D dA) (O : lj_ops N Rel) (hLx : Lx < 2 ^ 31) (hj : j + 5 ≤ Lx) (hR : Rel n μ ν) (k : ∀ μ' ν', Rel n μ' ν' → LJ p l e s m below meth c b D dA n 605 (nI j) [] μ' ν') : LJ p l e s m below meth c b D dA n 293 (nI j) [] μ ν := by
  obtain ⟨r, μ', ν', hA, hM, hR⟩ := (O.2.2.2.2.2.1) n μ ν (xs (j + 1)) hR
  exact lj_case5 C hLx hj hA hM (k _ _ hR)
set_option maxRecDepth 20000 in
theorem lj_sel6 {N j : Nat} {Rel : Nat → me_M → me_M → Prop} (C : lj_C p s m meth c b Lx xs D dA) (O : lj_ops N Rel) (hLx : Lx < 2 ^ 31) (hj : j + 5 ≤ Lx) (hR : Rel n μ ν) (k : ∀ μ' ν', Rel n μ' ν' → LJ p l e s m below meth c b D dA n 605 (nI j) [] μ' ν') : LJ p l e s m below meth c b D dA n 316 (nI j) [] μ ν := by
  obtain ⟨r, ν', hA, hM, hR⟩ := (O.2.2.2.2.2.2.1) n μ ν (xs (j + 1)) hR
  exact lj_case6 C hLx hj hA hM (k _ _ hR)
set_option maxRecDepth 20000 in
theorem lj_sel7 {N j : Nat} {Rel : Nat → me_M → me_M → Prop} (C : lj_C p s m meth c b Lx xs D dA) (O : lj_ops N Rel) (hLx : Lx < 2 ^ 31) (hj : j + 5 ≤ Lx) (hR : Rel n μ ν) (k : ∀ μ' ν', Rel n μ' ν' → LJ p l e s m below meth c b D dA n 605 (nI j) [] μ' ν') : LJ p l e s m below meth c b D dA n 339 (nI j) [] μ ν := by
  obtain ⟨r, ν', hA, hM, hR⟩ := (O.2.2.2.2.2.2.2.1) n μ ν (xs (j + 1)) (xs (j + 2)) hR
  exact lj_case7 C hLx hj hA hM (k _ _ hR)
set_option maxRecDepth 20000 in
theorem lj_sel8 {N j : Nat} {Rel : Nat → me_M → me_M → Prop} (C : lj_C p s m meth c b Lx xs D dA) (O : lj_ops N Rel) (hLx : Lx < 2 ^ 31) (hj : j + 5 ≤ Lx) (hR : Rel n μ ν) (k : ∀ μ' ν', Rel n μ' ν' → LJ p l e s m below meth c b D dA n 605 (nI j) [] μ' ν') : LJ p l e s m below meth c b D dA n 372 (nI j) [] μ ν := by
  obtain ⟨r, ν', hA, hM, hR⟩ := (O.2.2.2.2.2.2.2.2.1) n μ ν (xs (j + 1)) hR
  exact lj_case8 C hLx hj hA hM (k _ _ hR)
set_option maxRecDepth 20000 in
theorem lj_sel9 {N j : Nat} {Rel : Nat → me_M → me_M → Prop} (C : lj_C p s m meth c b Lx xs D dA) (O : lj_ops N Rel) (hLx : Lx < 2 ^ 31) (hj : j + 5 ≤ Lx) (hR : Rel n μ ν) (k : ∀ μ' ν', Rel n μ' ν' → LJ p l e s m below meth c b D dA n 605 (nI j) [] μ' ν') : LJ p l e s m below meth c b D dA n 395 (nI j) [] μ ν := by
  obtain ⟨r, μ', ν', hA, hM, hR⟩ := (O.2.2.2.2.2.2.2.2.2.1) n μ ν hR
  exact lj_case9 C hLx hj hA hM (k _ _ hR)
set_option maxRecDepth 20000 in
theorem lj_sel10 {N j : Nat} {Rel : Nat → me_M → me_M → Prop} (C : lj_C p s m meth c b Lx xs D dA) (O : lj_ops N Rel) (hLx : Lx < 2 ^ 31) (hj : j + 5 ≤ Lx) (hR : Rel n μ ν) (k : ∀ μ' ν', Rel n μ' ν' → LJ p l e s m below meth c b D dA n 605 (nI j) [] μ' ν') : LJ p l e s m below meth c b D dA n 408 (nI j) [] μ ν := by
  obtain ⟨r, μ', ν', hA, hM, hR⟩ := (O.2.2.2.2.2.2.2.2.2.2.1) n μ ν (xs (j + 1)) hR
  exact lj_case10 C hLx hj hA hM (k _ _ hR)
set_option maxRecDepth 20000 in
theorem lj_sel11 {N j : Nat} {Rel : Nat → me_M → me_M → Prop} (C : lj_C p s m meth c b Lx xs D dA) (O : lj_ops N Rel) (hLx : Lx < 2 ^ 31) (hj : j + 5 ≤ Lx) (hR : Rel n μ ν) (k : ∀ μ' ν', Rel n μ' ν' → LJ p l e s m below meth c b D dA n 605 (nI j) [] μ' ν') : LJ p l e s m below meth c b D dA n 431 (nI j) [] μ ν := by
  obtain ⟨r, μ', ν', hA, hM, hR⟩ := (O.2.2.2.2.2.2.2.2.2.2.2.1) n μ ν (xs (j + 1)) (xs (j + 2)) hR
  exact lj_case11 C hLx hj hA hM (k _ _ hR)
set_option maxRecDepth 20000 in
theorem lj_sel12 {N j : Nat} {Rel : Nat → me_M → me_M → Prop} (C : lj_C p s m meth c b Lx xs D dA) (O : lj_ops N Rel) (hLx : Lx < 2 ^ 31) (hj : j + 5 ≤ Lx) (hR : Rel n μ ν) (k : ∀ μ' ν', Rel n μ' ν' → LJ p l e s m below meth c b D dA n 605 (nI j) [] μ' ν') : LJ p l e s m below meth c b D dA n 464 (nI j) [] μ ν := by
  obtain ⟨r, μ', ν', hA, hM, hR⟩ := (O.2.2.2.2.2.2.2.2.2.2.2.2.1) n μ ν (xs (j + 1)) (xs (j + 2)) hR
  exact lj_case12 C hLx hj hA hM (k _ _ hR)
set_option maxRecDepth 20000 in
theorem lj_sel13 {N j : Nat} {Rel : Nat → me_M → me_M → Prop} (C : lj_C p s m meth c b Lx xs D dA) (O : lj_ops N Rel) (hLx : Lx < 2 ^ 31) (hj : j + 5 ≤ Lx) (hR : Rel n μ ν) (k : ∀ μ' ν', Rel n μ' ν' → LJ p l e s m below meth c b D dA n 605 (nI j) [] μ' ν') : LJ p l e s m below meth c b D dA n 497 (nI j) [] μ ν := by
  obtain ⟨r, μ', ν', hA, hM, hR⟩ := (O.2.2.2.2.2.2.2.2.2.2.2.2.2.1) n μ ν (xs (j + 1)) hR
  exact lj_case13 C hLx hj hA hM (k _ _ hR)
set_option maxRecDepth 20000 in
theorem lj_sel14 {N j : Nat} {Rel : Nat → me_M → me_M → Prop} (C : lj_C p s m meth c b Lx xs D dA) (O : lj_ops N Rel) (hLx : Lx < 2 ^ 31) (hj : j + 5 ≤ Lx) (hR : Rel n μ ν) (k : ∀ μ' ν', Rel n μ' ν' → LJ p l e s m below meth c b D dA n 605 (nI j) [] μ' ν') : LJ p l e s m below meth c b D dA n 520 (nI j) [] μ ν := by
  obtain ⟨r, hA, hM, hR⟩ := (O.2.2.2.2.2.2.2.2.2.2.2.2.2.2.1) n μ ν (xs (j + 1)) hR
  exact lj_case14 C hLx hj hA hM (k _ _ hR)
set_option maxRecDepth 20000 in
theorem lj_sel15 {N j : Nat} {Rel : Nat → me_M → me_M → Prop} (C : lj_C p s m meth c b Lx xs D dA) (O : lj_ops N Rel) (hLx : Lx < 2 ^ 31) (hj : j + 5 ≤ Lx) (hR : Rel n μ ν) (k : ∀ μ' ν', Rel n μ' ν' → LJ p l e s m below meth c b D dA n 605 (nI j) [] μ' ν') : LJ p l e s m below meth c b D dA n 544 (nI j) [] μ ν := by
  obtain ⟨r, hA, hM, hR⟩ := (O.2.2.2.2.2.2.2.2.2.2.2.2.2.2.2.1) n μ ν (xs (j + 1)) hR
  exact lj_case15 C hLx hj hA hM (k _ _ hR)
set_option maxRecDepth 20000 in
theorem lj_sel16 {N j : Nat} {Rel : Nat → me_M → me_M → Prop} (C : lj_C p s m meth c b Lx xs D dA) (O : lj_ops N Rel) (hLx : Lx < 2 ^ 31) (hj : j + 5 ≤ Lx) (hR : Rel n μ ν) (k : ∀ μ' ν', Rel n μ' ν' → LJ p l e s m below meth c b D dA n 605 (nI j) [] μ' ν') : LJ p l e s m below meth c b D dA n 568 (nI j) [] μ ν := by
  obtain ⟨r, hA, hM, hR⟩ := (O.2.2.2.2.2.2.2.2.2.2.2.2.2.2.2.2.1) n μ ν (xs (j + 1)) hR
  exact lj_case16 C hLx hj hA hM (k _ _ hR)
set_option maxRecDepth 20000 in
theorem lj_sel17 {N j : Nat} {Rel : Nat → me_M → me_M → Prop} (C : lj_C p s m meth c b Lx xs D dA) (O : lj_ops N Rel) (hLx : Lx < 2 ^ 31) (hj : j + 5 ≤ Lx) (hR : Rel n μ ν) (k : ∀ μ' ν', Rel n μ' ν' → LJ p l e s m below meth c b D dA n 605 (nI j) [] μ' ν') : LJ p l e s m below meth c b D dA n 591 (nI j) [] μ ν := by
  obtain ⟨r, hA, hM, hR⟩ := (O.2.2.2.2.2.2.2.2.2.2.2.2.2.2.2.2.2) n μ ν hR
  exact lj_case17 C hLx hj hA hM (k _ _ hR)
set_option maxRecDepth 20000 in
theorem lj_switch {N j : Nat} {Rel : Nat → me_M → me_M → Prop} {q : Nat} (C : lj_C p s m meth c b Lx xs D dA) (O : lj_ops N Rel) (hLx : Lx < 2 ^ 31) (hj : j + 5 ≤ Lx) (hR : Rel n μ ν) (hq : q < 32) (k : ∀ μ' ν', Rel n μ' ν' → LJ p l e s m below meth c b D dA n 605 (nI j) [] μ' ν') : LJ p l e s m below meth c b D dA n 42 (nI j) [.int (nI q)] μ ν := by
  have hc : q = 0 ∨ q = 1 ∨ q = 2 ∨ q = 3 ∨ q = 4 ∨ q = 5 ∨ q = 6 ∨ q = 7 ∨ q = 8 ∨ q = 9 ∨ q = 10 ∨ q = 11 ∨ q = 12 ∨ q = 13 ∨ q = 14 ∨ q = 15 ∨ q = 16 ∨ q = 17 ∨ 18 ≤ q := by omega
  rcases hc with rfl | rfl | rfl | rfl | rfl | rfl | rfl | rfl | rfl | rfl | rfl | rfl | rfl | rfl | rfl | rfl | rfl | rfl | hc
  · exact lj_tab (tgt := 128) (off := 86) C d_L_42 (by decide) (by decide) (by decide) (by decide) (lj_sel0 C O hLx hj hR k)
  · exact lj_tab (tgt := 161) (off := 119) C d_L_42 (by decide) (by decide) (by decide) (by decide) (lj_sel1 C O hLx hj hR k)
  · exact lj_tab (tgt := 194) (off := 152) C d_L_42 (by decide) (by decide) (by decide) (by decide) (lj_sel2 C O hLx hj hR k)
  · exact lj_tab (tgt := 247) (off := 205) C d_L_42 (by decide) (by decide) (by decide) (by decide) (lj_sel3 C O hLx hj hR k)
  · exact lj_tab (tgt := 270) (off := 228) C d_L_42 (by decide) (by decide) (by decide) (by decide) (lj_sel4 C O hLx hj hR k)
  · exact lj_tab (tgt := 293) (off := 251) C d_L_42 (by decide) (by decide) (by decide) (by decide) (lj_sel5 C O hLx hj hR k)
  · exact lj_tab (tgt := 316) (off := 274) C d_L_42 (by decide) (by decide) (by decide) (by decide) (lj_sel6 C O hLx hj hR k)
  · exact lj_tab (tgt := 339) (off := 297) C d_L_42 (by decide) (by decide) (by decide) (by decide) (lj_sel7 C O hLx hj hR k)
  · exact lj_tab (tgt := 372) (off := 330) C d_L_42 (by decide) (by decide) (by decide) (by decide) (lj_sel8 C O hLx hj hR k)
  · exact lj_tab (tgt := 395) (off := 353) C d_L_42 (by decide) (by decide) (by decide) (by decide) (lj_sel9 C O hLx hj hR k)
  · exact lj_tab (tgt := 408) (off := 366) C d_L_42 (by decide) (by decide) (by decide) (by decide) (lj_sel10 C O hLx hj hR k)
  · exact lj_tab (tgt := 431) (off := 389) C d_L_42 (by decide) (by decide) (by decide) (by decide) (lj_sel11 C O hLx hj hR k)
  · exact lj_tab (tgt := 464) (off := 422) C d_L_42 (by decide) (by decide) (by decide) (by decide) (lj_sel12 C O hLx hj hR k)
  · exact lj_tab (tgt := 497) (off := 455) C d_L_42 (by decide) (by decide) (by decide) (by decide) (lj_sel13 C O hLx hj hR k)
  · exact lj_tab (tgt := 520) (off := 478) C d_L_42 (by decide) (by decide) (by decide) (by decide) (lj_sel14 C O hLx hj hR k)
  · exact lj_tab (tgt := 544) (off := 502) C d_L_42 (by decide) (by decide) (by decide) (by decide) (lj_sel15 C O hLx hj hR k)
  · exact lj_tab (tgt := 568) (off := 526) C d_L_42 (by decide) (by decide) (by decide) (by decide) (lj_sel16 C O hLx hj hR k)
  · exact lj_tab (tgt := 591) (off := 549) C d_L_42 (by decide) (by decide) (by decide) (by decide) (lj_sel17 C O hLx hj hR k)
  · refine lj_tabO (tgt := 605) C d_L_42 (Or.inr ?_) (by decide) (k μ ν hR)
    rw [nI_toInt (by omega)]
    omega
set_option maxRecDepth 20000 in
theorem lj_loop {N : Nat} {Rel : Nat → me_M → me_M → Prop} (C : lj_C p s m meth c b Lx xs D dA) (O : lj_ops N Rel) (hLx : Lx ≤ 2561) : ∀ (q j : Nat) (μ ν : me_M), Lx + 5 - j ≤ q → j ≤ Lx + 5 → Rel n μ ν → LJ p l e s m below meth c b D dA n 28 (nI j) [] μ ν := by
  intro q
  induction q with
  | zero =>
    intro j μ ν hq hj hR
    have hjj : j = Lx + 5 := by omega
    refine lj_il3 (pc' := 29) C d_L_28 rfl ?_
    refine lj_al0 (pc' := 30) C d_L_29 rfl ?_
    refine lj_slen (pc' := 31) C d_L_30 rfl ?_
    refine lj_ic (pc' := 32) C d_L_31 rfl kc_ic_5 ?_
    refine lj_isub (pc' := 33) C d_L_32 rfl ?_
    refine lj_icmp_gt (tgt := 611) (pc' := 36) C d_L_33 (by decide) rfl (fun _ => ?_) (fun h => ?_)
    · refine lj_ic (pc' := 612) C d_L_611 rfl kc_ic_1 ?_
      exact lj_end C d_L_612
    · exfalso
      apply h
      rw [show (5 : Int32) = nI 5 from rfl, Int32.lt_iff_toInt_lt, pk_sub_toInt (by omega) (by omega), nI_toInt (by omega)]
      omega
  | succ q ih =>
    intro j μ ν hq hj hR
    refine lj_il3 (pc' := 29) C d_L_28 rfl ?_
    refine lj_al0 (pc' := 30) C d_L_29 rfl ?_
    refine lj_slen (pc' := 31) C d_L_30 rfl ?_
    refine lj_ic (pc' := 32) C d_L_31 rfl kc_ic_5 ?_
    refine lj_isub (pc' := 33) C d_L_32 rfl ?_
    refine lj_icmp_gt (tgt := 611) (pc' := 36) C d_L_33 (by decide) rfl (fun _ => ?_) (fun h => ?_)
    · refine lj_ic (pc' := 612) C d_L_611 rfl kc_ic_1 ?_
      exact lj_end C d_L_612
    · have hj5 : j + 5 ≤ Lx := by
        apply Nat.le_of_not_lt
        intro g
        apply h
        rw [show (5 : Int32) = nI 5 from rfl, Int32.lt_iff_toInt_lt, pk_sub_toInt (by omega) (by omega), nI_toInt (by omega)]
        omega
      refine lj_al0 (pc' := 37) C d_L_36 rfl ?_
      refine lj_il3 (pc' := 38) C d_L_37 rfl ?_
      refine lj_sld (pc' := 39) C d_L_38 rfl (vp_in_nI (by omega) (by omega)) ?_
      refine lj_bi (pc' := 41) C d_L_39 rfl kc_bi_31 ?_
      refine lj_iand (pc' := 42) C d_L_41 rfl ?_
      obtain ⟨z, hz, he⟩ := pk_andE (xs (nI j).toNatClampNeg) (m := 31) 5 (by decide)
      rw [he]
      refine lj_switch C O (by omega) hj5 hR hz (fun μ' ν' hR' => ?_)
      refine lj_iinc (pc' := 608) (v := nI (j + 5)) C d_L_605 rfl (by rw [kc_ic_5, show (5 : Int32) = nI 5 from rfl, nI_add]) ?_
      refine lj_goto (tgt := 28) C d_L_608 (by decide) ?_
      exact ih (j + 5) μ' ν' (by omega) (by omega) hR'
end LAW
