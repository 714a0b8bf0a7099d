/- the law's beginning -/
set_option maxRecDepth 20000 in
theorem lj_cellW : Cond.code (⟨"ArcTapeLaw", "cell", "([II)I"⟩ : MethodName) method_2_code 2 (some .int) ∈ wsAll ∧ Cond.initialized "ArcTapeLaw" ∈ wsAll ∧ Cond.methodLink "ArcTapeLaw" 9 (⟨"ArcTapeLaw", "cell", "([II)I"⟩ : MethodName) ∈ wsAll ∧ Cond.static (⟨"ArcTapeLaw", "cell", "([II)I"⟩ : MethodName) ∈ wsAll := ⟨wl_in 536 rfl rfl, wl_in 0 rfl rfl, wl_in 534 rfl rfl, wl_in 535 rfl rfl⟩
def lj_x0 (Lx : Nat) (xs : Nat → Int32) : Int32 := if 0 < Lx then xs 0 else 0
theorem lj_cell {b Lx : Nat} {xs : Nat → Int32} (hLx : Lx < 2 ^ 31) (l : Launch) : Met l (⟨"ArcTapeLaw", "cell", "([II)I"⟩ : MethodName) (Cond.code (⟨"ArcTapeLaw", "cell", "([II)I"⟩ : MethodName) method_2_code 2 (some .int) :: wsAll) ({ frames := 0, cells := 0, slots := 0, locals := 0 }) (va_Pc [.ref b, .int 0] (fun U => va_X b Lx xs U U.heap ∧ b < U.heap.size)) (fun _ st oc t => oc = .returned (some (.int (lj_x0 Lx xs))) ∧ t.heap = st.heap) 0 0 (fun _ => False) := by
  refine Met.ofW (cc := method_2_code) (maxL := 2) (ret := some .int) (by decide) rfl ?_
  intro p e s m args below meth c s₁ B hml hv
  obtain ⟨rfl, hX, hb⟩ := hv
  have hx := B.exec
  have hbb := B.bytes
  have hr := B.returns
  have hlocks := B.notSynchronized
  have hl := lv_entry ([.ref b, .int 0]) (n := 2) (Nat.le_of_ble_eq_true rfl)
  rw [lg_entry_eq]
  generalize (lg_sl ([.ref b, .int 0]) ++ List.replicate (2 - (lg_sl ([.ref b, .int 0])).length) Slot.unset).toArray = ls at hl ⊢
  have hl : lv_has ls 2 [(0, .ref b), (1, .int 0)] := hl
  have hS : va_S (fun _ => False) s.heap s.heap [] := va_S.rf
  refine lv_iload_n hx hbb d_cell_0 rfl (lv_at hl 1 rfl) ?_
  refine lv_aload_n hx hbb d_cell_1 rfl (lv_at hl 0 rfl) ?_
  refine va_slen hx hbb hX hb (fun q => q) hS d_cell_2 ?_
  refine lv_icmp_ge hx hbb d_cell_3 (tgt := 12) (by decide) (fun h => ?_) (fun h => ?_)
  · have h0 : Lx = 0 := by
      apply Nat.eq_zero_of_not_pos
      intro q
      exact nI_nle q hLx h
    refine lv_iconst hx hbb d_cell_12 kc_ic_0 ?_
    exact W.iret hx hbb hr (fun t ht hW => ⟨by rw [lj_x0, h0]; rfl, ht⟩) (fun q hq => by cases hq) d_cell_13 hlocks
  · have h0 : 0 < Lx := by
      apply Nat.pos_of_ne_zero
      intro q
      subst q
      exact h (by decide)
    refine lv_aload_n hx hbb d_cell_6 rfl (lv_at hl 0 rfl) ?_
    refine lv_iload_n hx hbb d_cell_7 rfl (lv_at hl 1 rfl) ?_
    refine va_sld hx hbb hX hb (fun q => q) hS (vp_in_nI (n := 0) h0 hLx) d_cell_8 ?_
    refine lv_goto hx hbb d_cell_9 (tgt := 13) (by decide) ?_
    exact W.iret hx hbb hr (fun t ht hW => ⟨by rw [lj_x0, if_pos h0]; rfl, ht⟩) (fun q hq => by cases hq) d_cell_13 hlocks
/- the tables' classes -/
set_option maxRecDepth 20000 in
theorem lj_known {A : Array Value} {s : State} (hts : ∀ w ∈ wsAll, w.before A s = true) : ∃ (D : va_G) (dA : Nat → ClassId), aw_K D dA s := by
  have h1 : ∀ q ∈ vwCl, ∃ z : ClassId × (Nat → Nat), u_Kn s q.1 q.2.1 q.2.2 z.1 z.2 := by
    have go : ∀ {C : String} {T : u_T} {N : Nat}, (∀ w ∈ u_ws C T N, w ∈ wsAll) → Cond.instantiable C N ∈ wsAll → ∃ z : ClassId × (Nat → Nat), u_Kn s C T N z.1 z.2 := by
      intro C T N h g
      obtain ⟨a, b, hk⟩ := u_known hts h (hts _ g)
      exact ⟨(a, b), hk⟩
    exact List.forall_mem_cons.mpr ⟨go wu_Y (wn_A_33.2.2.2.2.1), List.forall_mem_cons.mpr ⟨go wu_K (wn_A_42.2.2.2.2.1), List.forall_mem_cons.mpr ⟨go wu_S (wn_A_60.2.2.2.2.1), List.forall_mem_cons.mpr ⟨go wu_D (wn_A_51.2.2.2.2.1), List.forall_mem_cons.mpr ⟨go wu_O (wn_A_72.2.2.2.2.1), List.forall_mem_cons.mpr ⟨go wu_T (wn_A_26.2.2.2.2.1), List.forall_mem_cons.mpr ⟨go wu_A (wn_L_7.2.2.2.2.1), List.forall_mem_cons.mpr ⟨go wu_M (wn_L_18.2.2.2.2.1), fun _ h => absurd h List.not_mem_nil⟩⟩⟩⟩⟩⟩⟩⟩
  have h2 : ∀ t ∈ tyTab, ∃ cA : ClassId, ArrOfT s cA t ∧ va_RA s cA t := by
    have go : ∀ {ty : FieldType}, Cond.arrayClass ty ∈ wsAll → (∀ cA, s.vm.findClass ("[" ++ ty.toString) = some cA → va_RA s cA ty) → ∃ cA : ClassId, ArrOfT s cA ty ∧ va_RA s cA ty := by
      intro ty h g
      obtain ⟨cA, kA, comp, f1, f2, f3⟩ := Cond.arrayClass_spec (hts _ h)
      exact ⟨cA, fun N z => ⟨(fun k h => by cases h), kA, f2, comp, f3⟩, g cA f1⟩
    exact List.forall_mem_cons.mpr ⟨go wa_I (fun _ h => h), List.forall_mem_cons.mpr ⟨go wa_B (fun _ h => h), List.forall_mem_cons.mpr ⟨go wa_J (fun _ h => h), fun _ h => absurd h List.not_mem_nil⟩⟩⟩
  obtain ⟨z0, -⟩ := h1 _ List.mem_cons_self
  obtain ⟨f, hf⟩ := Classical.axiomOfChoice (r := fun (c : Nat) (z : ClassId × (Nat → Nat)) => ∀ q : vw_C, vwCl[c]? = some q → u_Kn s q.1 q.2.1 q.2.2 z.1 z.2) (fun c => by
    cases hq : vwCl[c]? with
    | none => exact ⟨z0, fun q h => by cases h⟩
    | some q =>
      obtain ⟨z, hz⟩ := h1 q (List.mem_of_getElem? hq)
      exact ⟨z, fun q' h => by cases h; exact hz⟩)
  obtain ⟨g, hg⟩ := Classical.axiomOfChoice (r := fun (t : Nat) (cA : ClassId) => ∀ ty : FieldType, tyTab[t]? = some ty → ArrOfT s cA ty ∧ va_RA s cA ty) (fun t => by
    cases hq : tyTab[t]? with
    | none => exact ⟨z0.1, fun q h => by cases h⟩
    | some q =>
      obtain ⟨z, hz⟩ := h2 q (List.mem_of_getElem? hq)
      exact ⟨z, fun q' h => by cases h; exact hz⟩)
  exact ⟨(fun c => (f c).1, fun c => (f c).2), g, hf, hg⟩
theorem lj_nest {A : Array Value} {s : State} (hts : ∀ w ∈ lw_tbl, w.before A s = true) : aw_N s := fun q hq => va_Nw.of rfl (hts _ (nwM_in q hq))
def lj_init (N : Nat) (Rel : Nat → me_M → me_M → Prop) : Prop := ∀ x : Int32, ∃ (n : Nat) (μ ν : me_M), n ≤ 12 ∧ (if (1 : Int32) < (if x < (12 : Int32) then x else (12 : Int32)) then (if x < (12 : Int32) then x else (12 : Int32)) else (1 : Int32)) = nI n ∧ fA_init N n = some μ ∧ fM_init N x = some ν ∧ Rel n μ ν
section START
variable {p : Program} {l : Launch} {e : Env} {s : State} {m : MethodId} {below : List Frame} {meth : Method} {c : Code} {b Lx : Nat} {xs : Nat → Int32} {D : va_G} {dA : Nat → ClassId}
/- a call of cell in the law -/
theorem lj_callCell (C : lj_C p s m meth c b Lx xs D dA) (hLx : Lx < 2 ^ 31) {pc kc kn : Nat} {H : Heap} {locs : List Loc} {ls : Array Slot} {st : List Value} (hd : decode code pc = .ok (.invokestatic 9, 3)) (hls : ls.size = 4) (hk : kc ≤ 600000 ∧ kn ≤ 7302250) (hst : (st.map fun v => v.category).sum ≤ 8) (S : va_S (fun q => s.heap.size ≤ q) s.heap H locs)
    (k : ∀ (locs1 : List Loc), va_S (fun q => s.heap.size ≤ q) s.heap H locs1 → W p l e room_1 s m #[Value.ref b] below meth c H locs1 kc kn (lw_Z below #[Value.ref b] s) (F0 m (pc + 3) ls (.int (lj_x0 Lx xs) :: st))) :
    W p l e room_1 s m #[Value.ref b] below meth c H locs kc kn (lw_Z below #[Value.ref b] s) (F0 m pc ls (.int 0 :: .ref b :: st)) := by
  have hts := lj_ws C
  obtain ⟨hcw, hini, hlk, hsta⟩ := lj_cellW
  have hb : b < s.heap.size := C.1.2.2.2.2.2.2.2.1
  have hX := C.1.2.2.2.2.2.2.1
  have hr := va_runS (R := room_1) (g := F0 m pc ls (.int 0 :: .ref b :: st)) (As := [.ref b, .int 0]) (Ts := wsAll) (H := H) (locs := locs) (cells := kc) (slots := kn) (below := below) (meth := meth) (e := e) (rest := st) ⟨C.1.1, C.1.2.1, C.1.2.2.2.1, C.1.2.2.2.2.1, hts⟩ (lj_cell (b := b) (Lx := Lx) (xs := xs) hLx l) ⟨callB_of 2 hts (aw_goodC hcw) rfl rfl rfl (hts _ hini) (hts _ hlk) ⟨by decide, by decide, by decide +kernel⟩ ⟨by decide, by decide⟩, hts _ hsta⟩ ⟨fun a U g mk q => ⟨q.1, va_X.moved (u := U) (U := U.calling g mk a) (Vm.Alike.refl U.vm) q.2.1, q.2.2⟩, fun U hU hW => ⟨rfl, by rw [hU]; exact va_X.moved hW.alike (hX.kept (S.2.1 b hb (Nat.not_le.mpr hb))), by rw [hU]; exact Nat.lt_of_lt_of_le hb S.1⟩⟩ rfl rfl hls rfl (by show 2 * 0 + _ ≤ _; omega) hd ⟨hk.1, hk.2⟩
  intro T hT X
  obtain ⟨v1, st₀, t, T', Lc, h0, X', hLc, e1, e2, ⟨hv1, hz⟩, stp⟩ := hr T hT X
  rw [h0] at hz
  have hvv : v1 = some (.int (lj_x0 Lx xs)) := Outcome.returned.inj hv1
  subst hvv
  obtain ⟨t2, a1, b1⟩ := k (locs ++ Lc) ⟨S.1, S.2.1, fun q hq => (List.mem_append.mp hq).elim (S.2.2 q) (fun g => absurd (hLc q g) id)⟩ T' (e1.trans hz) X'
  exact ⟨t2, stp t2 a1, b1⟩
/- a constructor called in the law, in a world at the heap's end -/
theorem lj_callInit (C : lj_C p s m meth c b Lx xs D dA) {pc kc kn B index nLy d mc ms : Nat} {y : MethodName} {cy : ByteArray} {h h1 : aw_H} {x : Int32} {H : Heap} {locs : List Loc} {ls : Array Slot} {st : List Value} (hd : decode code pc = .ok (.invokespecial index, 3)) (X : aw_wI "ArcTapeLaw" index y cy nLy 1) (hM : AM y cy nLy none d 1 mc ms [.ref 0, .int x] h (aw_is none h1)) (hR : lj_room d nLy) (hls : ls.size = 4) (hk : kc + mc ≤ 600000 ∧ kn + ms ≤ 7302250) (hst : (st.map fun v => v.category).sum ≤ 8) (hB : s.heap.size ≤ B) (S : va_S (fun q => s.heap.size ≤ q) s.heap H locs) (P : aw_P D dA B 0 true h H)
    (k : ∀ (H1 : Heap) (locs1 : List Loc), (∀ q : Nat, q < H.size → q < B → H1[q]? = H[q]?) → va_S (fun q => s.heap.size ≤ q) s.heap H1 locs1 → aw_P D dA B 0 true h1 H1 → W p l e room_1 s m #[Value.ref b] below meth c H1 locs1 (kc + mc) (kn + ms) (lw_Z below #[Value.ref b] s) (F0 m (pc + 3) ls st)) :
    W p l e room_1 s m #[Value.ref b] below meth c H locs kc kn (lw_Z below #[Value.ref b] s) (F0 m pc ls (.int x :: .ref B :: st)) := by
  obtain ⟨hcw, hini, hlk, hins, hy1, hy, hnl⟩ := X
  have hts := lj_ws C
  have hmd' : aw_md 1 true := ⟨fun _ => rfl, fun q => by cases q⟩
  have hr := va_runI (R := room_1) (g := F0 m pc ls (.int x :: .ref B :: st)) (b := B) (As := [.int x]) (Ts := wsAll) (H := H) (locs := locs) (cells := kc) (slots := kn) (below := below) (meth := meth) (e := e) (rest := st) ⟨C.1.1, C.1.2.1, C.1.2.2.2.1, C.1.2.2.2.2.1, hts⟩ (hM l D dA B 0 true hmd') ⟨callB_of 1 hts (aw_goodC hcw) rfl rfl rfl (hts _ hini) (hts _ hlk) hy ⟨hR.1, hR.2⟩, hy1, hts _ hins⟩ ⟨aw_blind, fun U hU hW => ⟨rfl, by rw [hU]; exact P, C.2.1.moved hW.alike, C.2.2.warm hW⟩⟩ rfl rfl hls rfl (by show 2 * 0 + _ ≤ _; omega) hd ⟨hk.1, hk.2⟩
  intro T hT X
  obtain ⟨v1, st₀, t, T', Lc, h0, X', hLc, e1, e2, ⟨⟨v0, h', hv1, ⟨rfl, rfl⟩, hP'⟩, hz, hk2⟩, stp⟩ := hr T hT X
  rw [h0] at hz hk2
  have hvv : v1 = none := Outcome.returned.inj hv1
  subst hvv
  have hS' : va_S (fun q => s.heap.size ≤ q) s.heap T'.heap (locs ++ Lc) := by
    refine ⟨Nat.le_trans S.1 (by rw [e1]; exact hz), fun q g1 g2 => ?_, fun q hq' => ?_⟩
    · rw [e1, hk2 q (Nat.lt_of_lt_of_le g1 S.1) (fun a => g2 (by have := a.1; omega))]
      exact S.2.1 q g1 g2
    · rcases List.mem_append.mp hq' with g | g
      · exact S.2.2 q g
      · have := (hLc q g).1
        show s.heap.size ≤ q.base
        omega
  obtain ⟨t2, a1, b1⟩ := k T'.heap (locs ++ Lc) (fun q g1 g2 => by rw [e1]; exact hk2 q g1 (fun a => by have := a.1; omega)) hS' (by rw [e1]; exact hP') T' rfl X'
  exact ⟨t2, stp t2 a1, b1⟩
/- a new object in the law, at the heap's end -/
theorem lj_new (C : lj_C p s m meth c b Lx xs D dA) {pc kc kn B index ci N : Nat} {CC : String} {T : u_T} {fs : List Value} {H : Heap} {locs : List Loc} {ls : Array Slot} {st : List Value} (hd : decode code pc = .ok (.new index, 3)) (X : aw_nw "ArcTapeLaw" index ci CC T N fs) (hk : kc + 1 ≤ 600000 ∧ kn + N ≤ 7302250) (hB : H.size = B) (S : va_S (fun q => s.heap.size ≤ q) s.heap H locs)
    (k : ∀ (H1 : Heap), (∀ q : Nat, q < H.size → H1[q]? = H[q]?) → va_S (fun q => s.heap.size ≤ q) s.heap H1 locs → aw_P D dA B 0 true [.inr (ci, fs)] H1 → W p l e room_1 s m #[Value.ref b] below meth c H1 locs (kc + 1) (kn + N) (lw_Z below #[Value.ref b] s) (F0 m (pc + 3) ls (.ref B :: st))) :
    W p l e room_1 s m #[Value.ref b] below meth c H locs kc kn (lw_Z below #[Value.ref b] s) (F0 m pc ls st) := by
  obtain ⟨hc, hin, ⟨ty0, Y, hfs⟩, hcl, hins, hini⟩ := X
  have hts := lj_ws C
  have hK := C.2.1
  have hKn := hK.1 ci _ hc
  refine W.newcK C.1.1 C.1.2.1 C.1.2.2.2.2.1 (hts _ hcl) (hts _ hins) (hts _ hini) rfl hd hk.1 hk.2 hKn.2.1 hB fun H1 kC hkC e1 z1 o1 => ?_
  have hP0 : aw_P D dA B 0 true ([] : aw_H) H := ⟨fun _ => by rw [hB]; rfl, (fun g => by cases g), fun k e he => by simp at he⟩
  refine k H1 (fun q hq => o1 q (by rw [← hB]; exact hq)) ⟨Nat.le_trans S.1 (by rw [z1, hB]; omega), fun x g1 g2 => (o1 x (by have := S.1; omega)).trans (S.2.1 x g1 g2), S.2.2⟩ (hP0.push rfl (by rw [z1, hB]) ?_ (fun q hq => o1 q (by rw [← hB]; exact hq)))
  exact ⟨_, hc, (u_born ty0 hts hin hKn hkC e1 Y.1).to (hfs B)⟩
end START
set_option maxRecDepth 20000 in
theorem whole_start_open {p : Program} {e : Env} {s : State} {m : MethodId} {below : List Frame} {meth : Method} {c : Code} (l : Launch) {b L : Nat} {xs : Nat → Int32} {N : Nat} {Rel : Nat → me_M → me_M → Prop} (O : lj_ops N Rel) (I : lj_init N Rel) (hL : L ≤ 2561) (C0 : lw_At p s m meth c b L xs) : W p l e room_1 s m #[Value.ref b] below meth c s.heap [] 0 0 (lw_Z below #[Value.ref b] s) (entryFrame m ([Value.ref b] : List Value).toArray 4) := by
  have hts0 : ∀ w ∈ wsAll, w.before #[Value.ref b] s = true := fun w hw => C0.2.2.2.2.2.1 w (List.mem_filter.mp hw).1
  obtain ⟨D, dA, hK⟩ := lj_known hts0
  have C : lj_C p s m meth c b L xs D dA := ⟨C0, hK, lj_nest C0.2.2.2.2.2.1⟩
  have hx := C0.1
  have hb := C0.2.1
  obtain ⟨n, μ, ν, hn, hcl, hfA, hfM, hR⟩ := I (lj_x0 L xs)
  have hl := lv_entry ([.ref b]) (n := 4) (Nat.le_of_ble_eq_true rfl)
  rw [lg_entry_eq]
  generalize (lg_sl ([.ref b]) ++ List.replicate (4 - (lg_sl ([.ref b])).length) Slot.unset).toArray = ls at hl ⊢
  have hl : lv_has ls 4 [(0, .ref b)] := hl
  have S0 : va_S (fun q => s.heap.size ≤ q) s.heap s.heap [] := va_S.rf
  refine lj_new C (B := s.heap.size) d_L_0 wn_L_7 ⟨by decide, by decide⟩ rfl S0 fun H1 o1 S1 P1 => ?_
  refine lv_dup hx hb d_L_3 rfl ?_
  refine lv_aload_n hx hb d_L_4 rfl (lv_at hl 0 rfl) ?_
  refine lv_iconst hx hb d_L_5 kc_ic_0 ?_
  refine lj_callCell C (by omega) d_L_6 hl.1 ⟨by decide, by decide⟩ (Nat.le_of_ble_eq_true rfl) S1 fun locs2 S2 => ?_
  refine lj_callInit C d_L_9 wc_L_15 (mA_init hn hcl hfA) ⟨by decide, by decide⟩ hl.1 ⟨by decide, by decide⟩ (Nat.le_of_ble_eq_true rfl) (Nat.le_refl _) S2 P1 fun H3 locs3 o3 S3 P3 => ?_
  have hz3 : H3.size = s.heap.size + 24 := P3.1 rfl
  refine lv_astore_n hx hb d_L_12 rfl hl (by decide) rfl fun ls1 hl1 => ?_
  refine lj_new C (B := s.heap.size + 24) d_L_13 wn_L_18 ⟨by decide, by decide⟩ hz3 S3 fun H4 o4 S4 P4 => ?_
  refine lv_dup hx hb d_L_16 rfl ?_
  refine lv_aload_n hx hb d_L_17 rfl (lv_at hl1 1 rfl) ?_
  refine lv_iconst hx hb d_L_18 kc_ic_0 ?_
  refine lj_callCell C (by omega) d_L_19 hl1.1 ⟨by decide, by decide⟩ (Nat.le_of_ble_eq_true rfl) S4 fun locs5 S5 => ?_
  refine lj_callInit C d_L_22 wc_L_20 (mM_init hfM) ⟨by decide, by decide⟩ hl1.1 ⟨by decide, by decide⟩ (Nat.le_of_ble_eq_true rfl) (Nat.le_add_right _ _) S5 P4 fun H6 locs6 o6 S6 P6 => ?_
  have PC : aw_P D dA s.heap.size 24 false (hC n μ) H6 := by
    refine ⟨(fun g => by cases g), fun _ => Nat.le_of_ble_eq_true rfl, fun k e he => ?_⟩
    have hk : k < 24 := (List.getElem?_eq_some_iff.mp he).1
    have h3 := P3.2.2 k e he
    have h4 : va_at D vwCl (s.heap.size + k, aw_e s.heap.size dA e) H4 := h3.kept (o4 _ h3.lt)
    exact h4.kept (o6 _ h4.lt (by show s.heap.size + k < _; omega))
  have PM : aw_P D dA (s.heap.size + 24) 16 false (hM ν) H6 := ⟨(fun g => by cases g), fun _ => Nat.le_of_ble_eq_true rfl, P6.2.2⟩
  refine lv_astore_n hx hb d_L_25 rfl hl1 (by decide) rfl fun ls2 hl2 => ?_
  refine lv_iconst hx hb d_L_26 kc_ic_1 ?_
  refine lv_istore_n hx hb d_L_27 rfl hl2 (by decide) rfl fun ls3 hl3 => ?_
  refine W.widen (k := 600000) (n := 7302250) (by decide) (by decide) ?_
  exact lj_loop C O hL (L + 5) 1 μ ν (by omega) (by omega) hR H6 locs6 ls3 PC PM S6 hl3
