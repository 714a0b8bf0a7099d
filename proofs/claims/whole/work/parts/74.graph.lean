/- links, what leads where, parts -/
def gf_st (R : Nat → Nat) (k : Nat) : Nat → Nat := fun v => if (R v).testBit k = true then R v ||| R k else R v
def gf_R (l : Nat → Nat) : Nat → Nat → Nat
  | 0 => fun v => l v ||| 2 ^ v
  | k + 1 => gf_st (gf_R l k) k
theorem gf_lt {n : Nat} {l : Nat → Nat} (hl : ∀ v, v < n → l v < 2 ^ n) : ∀ k v, k ≤ n → v < n → gf_R l k v < 2 ^ n := by
  intro k
  induction k with
  | zero => intro v _ hv; exact Nat.or_lt_two_pow (hl v hv) (dr_pv hv)
  | succ k ih =>
    intro v hk hv
    show gf_st (gf_R l k) k v < 2 ^ n
    unfold gf_st
    by_cases h : (gf_R l k v).testBit k = true
    · rw [if_pos h]; exact Nat.or_lt_two_pow (ih v (by omega) hv) (ih k (by omega) (by omega))
    · rw [if_neg h]; exact ih v (by omega) hv
theorem gf_bit (R : Nat → Nat) (k v w : Nat) : (gf_st R k v).testBit w = true ↔ (R v).testBit w = true ∨ ((R v).testBit k = true ∧ (R k).testBit w = true) := by
  unfold gf_st
  by_cases h : (R v).testBit k = true
  · rw [if_pos h, Nat.testBit_or]; simp [h]
  · rw [if_neg h]; simp [h]
theorem gf_mono {l : Nat → Nat} {v w : Nat} : ∀ k, (l v).testBit w = true ∨ v = w → (gf_R l k v).testBit w = true := by
  intro k
  induction k with
  | zero =>
    intro h
    show (l v ||| 2 ^ v).testBit w = true
    rw [Nat.testBit_or, Nat.testBit_two_pow]
    rcases h with h | h <;> simp [h]
  | succ k ih => intro h; exact (gf_bit _ _ _ _).mpr (Or.inl (ih h))
theorem gf_trans {l : Nat → Nat} : ∀ k m, m < k → ∀ u w, (gf_R l k u).testBit m = true → (gf_R l k m).testBit w = true → (gf_R l k u).testBit w = true := by
  intro k
  induction k with
  | zero => intro m hm; omega
  | succ k ih =>
    intro m hm u w h1 h2
    have h1 := (gf_bit _ _ _ _).mp h1
    have h2 := (gf_bit _ _ _ _).mp h2
    refine (gf_bit _ _ _ _).mpr ?_
    by_cases e : m = k
    · subst e
      have a : (gf_R l m u).testBit m = true := h1.elim id (fun q => q.1)
      have b : (gf_R l m m).testBit w = true := h2.elim id (fun q => q.2)
      exact Or.inr ⟨a, b⟩
    · have hmk : m < k := by omega
      rcases h1 with a | ⟨a1, a2⟩ <;> rcases h2 with b | ⟨b1, b2⟩
      · exact Or.inl (ih m hmk u w a b)
      · exact Or.inr ⟨ih m hmk u k a b1, b2⟩
      · exact Or.inr ⟨a1, ih m hmk k w a2 b⟩
      · exact Or.inr ⟨a1, b2⟩
/- the least: a set that the links don't leave -/
theorem gf_closed {n : Nat} {l : Nat → Nat} {S : Nat} (hS : ∀ w, w < n → S.testBit w = true → ∀ x, (l w).testBit x = true → S.testBit x = true) : ∀ k, k ≤ n → ∀ u, u < n → S.testBit u = true → ∀ x, (gf_R l k u).testBit x = true → S.testBit x = true := by
  intro k
  induction k with
  | zero =>
    intro _ u hu hSu x hx
    have hx : (l u ||| 2 ^ u).testBit x = true := hx
    rw [Nat.testBit_or, Nat.testBit_two_pow] at hx
    by_cases e : u = x
    · subst e; exact hSu
    · simp [e] at hx
      exact hS u hu hSu x hx
  | succ k ih =>
    intro hk u hu hSu x hx
    rcases (gf_bit _ _ _ _).mp hx with h | ⟨h1, h2⟩
    · exact ih (by omega) u hu hSu x h
    · exact ih (by omega) k (by omega) (ih (by omega) u hu hSu k h1) x h2
/- parts -/
def gf_pt (R : Nat → Nat) (v : Nat) : Nat → Nat
  | 0 => 0
  | w + 1 => if (R v).testBit w = true ∧ (R w).testBit v = true then gf_pt R v w ||| 2 ^ w else gf_pt R v w
theorem gf_ptb (R : Nat → Nat) (v x : Nat) : ∀ n, (gf_pt R v n).testBit x = true ↔ x < n ∧ (R v).testBit x = true ∧ (R x).testBit v = true := by
  intro n
  induction n with
  | zero => show (0 : Nat).testBit x = true ↔ _; rw [Nat.zero_testBit]; simp
  | succ w ih =>
    unfold gf_pt
    by_cases h : (R v).testBit w = true ∧ (R w).testBit v = true
    · rw [if_pos h, Nat.testBit_or, Nat.testBit_two_pow, Bool.or_eq_true, ih, decide_eq_true_eq]
      constructor
      · rintro (⟨a, b⟩ | a)
        · exact ⟨by omega, b⟩
        · subst a; exact ⟨by omega, h⟩
      · rintro ⟨a, b⟩
        by_cases e : w = x
        · exact Or.inr e
        · exact Or.inl ⟨by omega, b⟩
    · rw [if_neg h, ih]
      constructor
      · rintro ⟨a, b⟩; exact ⟨by omega, b⟩
      · rintro ⟨a, b⟩
        refine ⟨?_, b⟩
        by_cases e : x = w
        · subst e; exact absurd b h
        · omega
theorem gf_ptlt (R : Nat → Nat) (v : Nat) : ∀ n, gf_pt R v n < 2 ^ n := by
  intro n
  induction n with
  | zero => exact Nat.one_pos
  | succ w ih =>
    unfold gf_pt
    have h1 : gf_pt R v w < 2 ^ (w + 1) := Nat.lt_trans ih (Nat.pow_lt_pow_right (by decide) (by omega))
    by_cases h : (R v).testBit w = true ∧ (R w).testBit v = true
    · rw [if_pos h]; exact Nat.or_lt_two_pow h1 (Nat.pow_lt_pow_right (by decide) (by omega))
    · rw [if_neg h]; exact h1
def gf_ot (l : Nat → Nat) (P : Nat) : Nat → Nat
  | 0 => 0
  | w + 1 => if P.testBit w = true then gf_ot l P w ||| l w else gf_ot l P w
theorem gf_otb (l : Nat → Nat) (P x : Nat) : ∀ n, (gf_ot l P n).testBit x = true ↔ ∃ w, w < n ∧ P.testBit w = true ∧ (l w).testBit x = true := by
  intro n
  induction n with
  | zero => show (0 : Nat).testBit x = true ↔ _; rw [Nat.zero_testBit]; simp
  | succ w ih =>
    unfold gf_ot
    by_cases h : P.testBit w = true
    · rw [if_pos h, Nat.testBit_or, Bool.or_eq_true, ih]
      constructor
      · rintro (⟨y, a, b⟩ | a)
        · exact ⟨y, by omega, b⟩
        · exact ⟨w, by omega, h, a⟩
      · rintro ⟨y, a, b, c⟩
        by_cases e : y = w
        · subst e; exact Or.inr c
        · exact Or.inl ⟨y, by omega, b, c⟩
    · rw [if_neg h, ih]
      constructor
      · rintro ⟨y, a, b⟩; exact ⟨y, by omega, b⟩
      · rintro ⟨y, a, b, c⟩
        refine ⟨y, ?_, b, c⟩
        by_cases e : y = w
        · subst e; exact absurd b h
        · omega
theorem gf_otlt {n : Nat} {l : Nat → Nat} (hl : ∀ v, v < n → l v < 2 ^ n) (P : Nat) : ∀ m, m ≤ n → gf_ot l P m < 2 ^ n := by
  intro m
  induction m with
  | zero => intro _; exact Nat.two_pow_pos n
  | succ w ih =>
    intro hm
    unfold gf_ot
    by_cases h : P.testBit w = true
    · rw [if_pos h]; exact Nat.or_lt_two_pow (ih (by omega)) (hl w (by omega))
    · rw [if_neg h]; exact ih (by omega)
theorem gf_di0 {a b : Nat} (ha : a < 4096) : ap_di a b = 0 ↔ ∀ x, x < 12 → a.testBit x = true → b.testBit x = true := by
  constructor
  · intro h x hx hax
    have : (ap_di a b).testBit x = false := by rw [h]; exact Nat.zero_testBit x
    rw [ap_di_bit _ _ _ (by omega), hax] at this
    simpa using this
  · intro h
    apply rn_ext (rn_dilt ha) (by decide)
    intro x hx
    rw [ap_di_bit _ _ _ (by omega), Nat.zero_testBit]
    cases hax : a.testBit x with
    | false => rfl
    | true => rw [h x hx hax]; rfl
theorem gf_hi {a n x : Nat} (ha : a < 2 ^ n) (h : a.testBit x = true) : x < n := by
  apply Nat.lt_of_not_le
  intro hx
  rw [Nat.testBit_lt_two_pow (Nat.lt_of_lt_of_le ha (Nat.pow_le_pow_right (by decide) hx))] at h
  cases h
/- ready: in the class's words, and in the reference's -/
def gf_rc (n : Nat) (R : Nat → Nat) (D v : Nat) : Prop := ap_di (ap_di (R v) D) (gf_pt R v n) = 0
def gf_rm (n : Nat) (R l : Nat → Nat) (D v : Nat) : Prop := ap_di (gf_ot l (gf_pt R v n) n) (gf_pt R v n ||| D) = 0
def gf_cl (n : Nat) (l : Nat → Nat) (D : Nat) : Prop := ∀ w, w < n → D.testBit w = true → ∀ x, (l w).testBit x = true → D.testBit x = true
theorem gf_rcb {n : Nat} {R : Nat → Nat} {D v : Nat} (h12 : n ≤ 12) (hR : R v < 2 ^ n) : gf_rc n R D v ↔ ∀ x, (R v).testBit x = true → D.testBit x = true ∨ (gf_pt R v n).testBit x = true := by
  have hp := dr_pow h12
  unfold gf_rc
  rw [gf_di0 (rn_dilt (by omega))]
  constructor
  · intro h x hx
    have hxn := gf_hi hR hx
    by_cases hD : D.testBit x = true
    · exact Or.inl hD
    · refine Or.inr (h x (by omega) ?_)
      rw [ap_di_bit _ _ _ (by omega), hx]
      simpa using hD
  · intro h x hx hax
    rw [ap_di_bit _ _ _ (by omega)] at hax
    simp at hax
    rcases h x hax.1 with q | q
    · rw [hax.2] at q; cases q
    · exact q
theorem gf_rmb {n : Nat} {R l : Nat → Nat} {D v : Nat} (h12 : n ≤ 12) (hl : ∀ v, v < n → l v < 2 ^ n) : gf_rm n R l D v ↔ ∀ w, w < n → (gf_pt R v n).testBit w = true → ∀ x, (l w).testBit x = true → (gf_pt R v n).testBit x = true ∨ D.testBit x = true := by
  have hp := dr_pow h12
  have hot := gf_otlt hl (gf_pt R v n) n (Nat.le_refl _)
  unfold gf_rm
  rw [gf_di0 (by omega)]
  constructor
  · intro h w hw hP x hx
    have hxn := gf_hi (hl w hw) hx
    have := h x (by omega) ((gf_otb _ _ _ _).mpr ⟨w, hw, hP, hx⟩)
    rw [Nat.testBit_or, Bool.or_eq_true] at this
    exact this
  · intro h x hx hox
    obtain ⟨w, hw, hP, hlx⟩ := (gf_otb _ _ _ _).mp hox
    rw [Nat.testBit_or, Bool.or_eq_true]
    exact h w hw hP x hlx
theorem gf_same {n : Nat} {l : Nat → Nat} {D v : Nat} (h12 : n ≤ 12) (hl : ∀ v, v < n → l v < 2 ^ n) (hv : v < n) (hcl : gf_cl n l D) : gf_rc n (gf_R l n) D v ↔ gf_rm n (gf_R l n) l D v := by
  have hlt := fun v hv => gf_lt hl n v (Nat.le_refl _) hv
  rw [gf_rcb h12 (hlt v hv), gf_rmb h12 hl]
  constructor
  · intro h w hw hP x hx
    obtain ⟨-, a, b⟩ := (gf_ptb _ _ _ _).mp hP
    have hvx : (gf_R l n v).testBit x = true := gf_trans n w hw v x a (gf_mono n (Or.inl hx))
    exact (h x hvx).symm
  · intro h x hx
    have hS : ∀ w, w < n → (gf_pt (gf_R l n) v n ||| D).testBit w = true → ∀ x, (l w).testBit x = true → (gf_pt (gf_R l n) v n ||| D).testBit x = true := by
      intro w hw hw2 y hy
      rw [Nat.testBit_or, Bool.or_eq_true] at hw2 ⊢
      rcases hw2 with q | q
      · exact h w hw q y hy
      · exact Or.inr (hcl w hw q y hy)
    have hvv : (gf_pt (gf_R l n) v n ||| D).testBit v = true := by
      rw [Nat.testBit_or, Bool.or_eq_true]
      exact Or.inl ((gf_ptb _ _ _ _).mpr ⟨hv, gf_mono n (Or.inr rfl), gf_mono n (Or.inr rfl)⟩)
    have := gf_closed hS n (Nat.le_refl _) v hv hvv x hx
    rw [Nat.testBit_or, Bool.or_eq_true] at this
    exact this.symm
theorem gf_clD {n : Nat} {l : Nat → Nat} {D v : Nat} (h12 : n ≤ 12) (hl : ∀ v, v < n → l v < 2 ^ n) (hcl : gf_cl n l D) (h : gf_rm n (gf_R l n) l D v) : gf_cl n l (D ||| gf_pt (gf_R l n) v n) := by
  have h' := (gf_rmb h12 hl).mp h
  intro w hw hw2 x hx
  rw [Nat.testBit_or, Bool.or_eq_true] at hw2 ⊢
  rcases hw2 with q | q
  · exact Or.inl (hcl w hw q x hx)
  · exact (h' w hw q x hx).symm
/- counting -/
theorem gf_cnb (x v : Nat) : st_cn x (v + 1) = st_cn x v + (if x.testBit v = true then 1 else 0) := by
  show st_cn x v + x / 2 ^ v % 2 = _
  rw [st_bitb]
theorem gf_cnle {X Y : Nat} (h : ∀ x, X.testBit x = true → Y.testBit x = true) : ∀ v, st_cn X v ≤ st_cn Y v := by
  intro v
  induction v with
  | zero => exact Nat.le_refl _
  | succ v ih =>
    rw [gf_cnb, gf_cnb]
    by_cases a : X.testBit v = true
    · rw [if_pos a, if_pos (h v a)]; omega
    · rw [if_neg a]; omega
theorem gf_cneq {X Y : Nat} (h : ∀ x, X.testBit x = true → Y.testBit x = true) : ∀ v, st_cn Y v ≤ st_cn X v → ∀ x, x < v → Y.testBit x = true → X.testBit x = true := by
  intro v
  induction v with
  | zero => intro _ x hx; omega
  | succ v ih =>
    intro hle x hx hY
    have hl := gf_cnle h v
    rw [gf_cnb, gf_cnb] at hle
    by_cases e : x = v
    · subst e
      apply Classical.byContradiction
      intro g
      rw [if_pos hY, if_neg g] at hle
      omega
    · refine ih ?_ x (by omega) hY
      by_cases a : X.testBit v = true
      · rw [if_pos a, if_pos (h v a)] at hle; omega
      · rw [if_neg a] at hle; omega
theorem gf_full {D : Nat} : ∀ v, v ≤ st_cn D v → ∀ x, x < v → D.testBit x = true := by
  intro v
  induction v with
  | zero => intro _ x hx; omega
  | succ v ih =>
    intro hle x hx
    have hl := st_cn_le D v
    rw [gf_cnb] at hle
    by_cases e : x = v
    · subst e
      apply Classical.byContradiction
      intro g
      rw [if_neg g] at hle
      omega
    · refine ih ?_ x (by omega)
      by_cases a : D.testBit v = true
      · rw [if_pos a] at hle; omega
      · rw [if_neg a] at hle; omega
/- while a node is left, one is ready -/
theorem gf_prog {n : Nat} {l : Nat → Nat} {D u : Nat} (h12 : n ≤ 12) (hl : ∀ v, v < n → l v < 2 ^ n) (hu : u < n) (hD : D.testBit u = false) : ∃ v, v < n ∧ D.testBit v = false ∧ gf_rc n (gf_R l n) D v := by
  have hp := dr_pow h12
  have hlt := fun v hv => gf_lt hl n v (Nat.le_refl _) hv
  obtain ⟨k, ⟨v, hv, hDv, hk⟩, hmin⟩ := pk_least (fun k => ∃ v, v < n ∧ D.testBit v = false ∧ st_cn (ap_di (gf_R l n v) D) 12 = k) ⟨_, u, hu, hD, rfl⟩
  refine ⟨v, hv, hDv, (gf_rcb h12 (hlt v hv)).mpr (fun x hx => ?_)⟩
  have hxn := gf_hi (hlt v hv) hx
  by_cases hDx : D.testBit x = true
  · exact Or.inl hDx
  · refine Or.inr ((gf_ptb _ _ _ _).mpr ⟨hxn, hx, ?_⟩)
    have hDx' : D.testBit x = false := by simpa using hDx
    have hsub : ∀ y, (ap_di (gf_R l n x) D).testBit y = true → (ap_di (gf_R l n v) D).testBit y = true := by
      intro y hy
      have hyn : y < 12 := gf_hi (n := 12) (rn_dilt (b := D) (show gf_R l n x < 4096 from by have := hlt x hxn; omega)) hy
      rw [ap_di_bit _ _ _ (by omega)] at hy ⊢
      simp at hy ⊢
      exact ⟨gf_trans n x hxn v y hx hy.1, hy.2⟩
    have hge : k ≤ st_cn (ap_di (gf_R l n x) D) 12 := by
      apply Nat.le_of_not_lt
      intro hlt2
      exact hmin _ hlt2 ⟨x, hxn, hDx', rfl⟩
    have hvv : (ap_di (gf_R l n v) D).testBit v = true := by
      rw [ap_di_bit _ _ _ (by omega), hDv, gf_mono n (Or.inr rfl)]
      rfl
    have := gf_cneq hsub 12 (by omega) v (by omega) hvv
    rw [ap_di_bit _ _ _ (by omega)] at this
    simp at this
    exact this.1
