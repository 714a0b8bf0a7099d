/- numbers, guards, frames, loops -/
theorem ba_gi {α : Type} {i n : Nat} {k : Option α} (h : i < n) (hn : n < 2 ^ 31) : me_gi (nI i) n k = k := by
  unfold me_gi
  rw [if_neg]
  rintro (q | q)
  · exact nI_pos (by omega) q
  · rw [nI_clamp (by omega)] at q; omega
theorem ba_gz1 {α : Type} {k : Option α} : me_gz 1 k = k := by unfold me_gz; rw [if_pos (Or.inr rfl)]
theorem ba_gz0 {α : Type} {k : Option α} : me_gz 0 k = k := by unfold me_gz; rw [if_pos (Or.inl rfl)]
theorem ba_gzb {α : Type} {k : Option α} (b : Bool) : me_gz (if b = true then 1 else 0) k = k := by cases b <;> first | exact ba_gz0 | exact ba_gz1
theorem ba_gd {α β : Type} [DecidableEq β] {y z : β} {k : Option α} (h : y ≠ z) : me_gd y z k = k := by unfold me_gd; rw [if_neg h]
theorem me_wi_at (μ : me_M) (c i : Nat) (x : Int32) (c' j : Nat) : (me_wi μ c i x).1 c' j = if c' = c then (if j = i then x else μ.1 c j) else μ.1 c' j := by
  show (bif Nat.beq c' c then upd (μ.1 c) i x else μ.1 c') j = _
  by_cases h : c' = c
  · subst h
    rw [if_pos rfl, Nat.beq_refl]
    rfl
  · rw [if_neg h]
    have : Nat.beq c' c = false := by
      cases hb : Nat.beq c' c with
      | false => rfl
      | true => exact absurd (Nat.eq_of_beq_eq_true hb) h
    rw [this]
    rfl
theorem me_wi_c (μ : me_M) (c i : Nat) (x : Int32) {c' : Nat} (h : c' ≠ c) : (me_wi μ c i x).1 c' = μ.1 c' := by
  funext j
  rw [me_wi_at, if_neg h]
theorem me_wi_s (μ : me_M) (c i : Nat) (x : Int32) : (me_wi μ c i x).1 c i = x := by rw [me_wi_at, if_pos rfl, if_pos rfl]
theorem me_wi_n (μ : me_M) (c i : Nat) (x : Int32) {j : Nat} (h : j ≠ i) : (me_wi μ c i x).1 c j = μ.1 c j := by rw [me_wi_at, if_pos rfl, if_neg h]
theorem me_wi_2 (μ : me_M) (c i : Nat) (x : Int32) : (me_wi μ c i x).2 = μ.2 := rfl
theorem me_wl_at (μ : me_M) (c i : Nat) (x : Int64) (c' j : Nat) : (me_wl μ c i x).2 c' j = if c' = c then (if j = i then x else μ.2 c j) else μ.2 c' j := by
  show (bif Nat.beq c' c then vp_updL (μ.2 c) i x else μ.2 c') j = _
  by_cases h : c' = c
  · subst h
    rw [if_pos rfl, Nat.beq_refl]
    rfl
  · rw [if_neg h]
    have : Nat.beq c' c = false := by
      cases hb : Nat.beq c' c with
      | false => rfl
      | true => exact absurd (Nat.eq_of_beq_eq_true hb) h
    rw [this]
    rfl
theorem me_wl_c (μ : me_M) (c i : Nat) (x : Int64) {c' : Nat} (h : c' ≠ c) : (me_wl μ c i x).2 c' = μ.2 c' := by
  funext j
  rw [me_wl_at, if_neg h]
theorem me_wl_s (μ : me_M) (c i : Nat) (x : Int64) : (me_wl μ c i x).2 c i = x := by rw [me_wl_at, if_pos rfl, if_pos rfl]
theorem me_wl_n (μ : me_M) (c i : Nat) (x : Int64) {j : Nat} (h : j ≠ i) : (me_wl μ c i x).2 c j = μ.2 c j := by rw [me_wl_at, if_pos rfl, if_neg h]
theorem me_wl_1 (μ : me_M) (c i : Nat) (x : Int64) : (me_wl μ c i x).1 = μ.1 := rfl
/- what else stays -/
def me_fr (cs ds : List Nat) (μ μ' : me_M) : Prop := (∀ c, c ∉ cs → μ'.1 c = μ.1 c) ∧ (∀ c, c ∉ ds → μ'.2 c = μ.2 c)
theorem me_fr.rf {cs ds : List Nat} {μ : me_M} : me_fr cs ds μ μ := ⟨fun _ _ => rfl, fun _ _ => rfl⟩
theorem me_fr.tr {cs ds : List Nat} {a b c : me_M} (h : me_fr cs ds a b) (g : me_fr cs ds b c) : me_fr cs ds a c := ⟨fun x hx => (g.1 x hx).trans (h.1 x hx), fun x hx => (g.2 x hx).trans (h.2 x hx)⟩
theorem me_fr.mono {cs ds cs' ds' : List Nat} {a b : me_M} (h : me_fr cs ds a b) (h1 : ∀ c ∈ cs, c ∈ cs') (h2 : ∀ c ∈ ds, c ∈ ds') : me_fr cs' ds' a b := ⟨fun x hx => h.1 x (fun q => hx (h1 x q)), fun x hx => h.2 x (fun q => hx (h2 x q))⟩
theorem me_fr.wi {cs ds : List Nat} {a b : me_M} (h : me_fr cs ds a b) {c i : Nat} {x : Int32} (hc : c ∈ cs) : me_fr cs ds a (me_wi b c i x) := ⟨fun z hz => (me_wi_c b c i x (fun e => hz (by rw [e]; exact hc))).trans (h.1 z hz), h.2⟩
theorem me_fr.wl {cs ds : List Nat} {a b : me_M} (h : me_fr cs ds a b) {c i : Nat} {x : Int64} (hc : c ∈ ds) : me_fr cs ds a (me_wl b c i x) := ⟨h.1, fun z hz => (me_wl_c b c i x (fun e => hz (by rw [e]; exact hc))).trans (h.2 z hz)⟩
/- loops that count up -/
theorem lp_g {σ R : Type} (G : Option R → Prop) (H : Nat → Nat → σ → Option R) (Inv : Nat → σ → Prop) (n : Nat)
    (hs : ∀ F k s, k < n → Inv k s → (∀ s', Inv (k + 1) s' → G (H F (k + 1) s')) → G (H (F + 1) k s)) (hx : ∀ F s, Inv n s → G (H (F + 1) n s)) :
    ∀ (m F k : Nat) (s : σ), k + m = n → m < F → Inv k s → G (H F k s) := by
  intro m
  induction m with
  | zero =>
    intro F k s hk hF hi
    obtain ⟨F, rfl⟩ : ∃ f, F = f + 1 := ⟨F - 1, by omega⟩
    have : k = n := by omega
    subst this
    exact hx F s hi
  | succ m ih =>
    intro F k s hk hF hi
    obtain ⟨F, rfl⟩ : ∃ f, F = f + 1 := ⟨F - 1, by omega⟩
    exact hs F k s (by omega) hi (fun s' h' => ih F (k + 1) s' (by omega) (by omega) h')
theorem lp_r {σ τ R S : Type} (G : Option R → Option S → Prop) (H : Nat → Nat → σ → Option R) (K : Nat → Nat → τ → Option S) (Inv : Nat → σ → τ → Prop) (n : Nat)
    (hs : ∀ F E k s t, k < n → Inv k s t → (∀ s' t', Inv (k + 1) s' t' → G (H F (k + 1) s') (K E (k + 1) t')) → G (H (F + 1) k s) (K (E + 1) k t)) (hx : ∀ F E s t, Inv n s t → G (H (F + 1) n s) (K (E + 1) n t)) :
    ∀ (m F E k : Nat) (s : σ) (t : τ), k + m = n → m < F → m < E → Inv k s t → G (H F k s) (K E k t) := by
  intro m
  induction m with
  | zero =>
    intro F E k s t hk hF hE hi
    obtain ⟨F, rfl⟩ : ∃ f, F = f + 1 := ⟨F - 1, by omega⟩
    obtain ⟨E, rfl⟩ : ∃ f, E = f + 1 := ⟨E - 1, by omega⟩
    have : k = n := by omega
    subst this
    exact hx F E s t hi
  | succ m ih =>
    intro F E k s t hk hF hE hi
    obtain ⟨F, rfl⟩ : ∃ f, F = f + 1 := ⟨F - 1, by omega⟩
    obtain ⟨E, rfl⟩ : ∃ f, E = f + 1 := ⟨E - 1, by omega⟩
    exact hs F E k s t (by omega) hi (fun s' t' h' => ih F E (k + 1) s' t' (by omega) (by omega) (by omega) h')
/- bits of small numbers -/
theorem ba_sl : ∀ n, n < 32 → ((nI n &&& 31).toBitVec.smod 32).toNat = n := by decide +kernel
theorem ba_shr {s v : Nat} (hs : s < 2 ^ 31) (hv : v < 32) : nI s >>> (nI v &&& 31) = nI (s / 2 ^ v) := pk_shrN hs _ v (ba_sl v hv)
theorem ba_and1 {s : Nat} (hs : s < 2 ^ 32) : nI s &&& 1 = nI (s % 2) := pk_andN hs 1 (by decide)
theorem ba_bit {s v : Nat} (hs : s < 2 ^ 31) (hv : v < 32) : (nI s >>> (nI v &&& 31)) &&& 1 = nI (s / 2 ^ v % 2) := by
  rw [ba_shr hs hv]
  exact ba_and1 (Nat.lt_of_le_of_lt (Nat.div_le_self _ _) (by omega))
theorem ba_tb (s v : Nat) : s.testBit v = decide (s / 2 ^ v % 2 = 1) := by
  rw [Nat.testBit_eq_decide_div_mod_eq]
theorem ba_b {α β : Type} {a : α} {k : α → Option β} : Option.bind (some a) k = k a := rfl
theorem ba_10 {α : Type} {A B : α} : (if (1 : Int32) = 0 then A else B) = B := if_neg (by decide)
theorem ba_00 {α : Type} {A B : α} : (if (0 : Int32) = 0 then A else B) = A := if_pos rfl
theorem ba_tt {α : Type} {A B : α} : (if true = true then A else B) = A := if_pos rfl
theorem ba_ff {α : Type} {A B : α} : (if false = true then A else B) = B := if_neg (by decide)
