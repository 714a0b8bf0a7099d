/- reading, side by side: f is the fault so far; while it is 0 both stand at the same place -/
def rd (n : Nat) (μ ν : me_M) (f : Nat) : Prop := rl_I n μ ν ∧ f ≤ 10 ∧ μ.1 1209 0 = nI f ∧ ν.1 112 0 = nI f ∧ (f = 0 → ∃ p, p ≤ 800 ∧ μ.1 1208 0 = nI p ∧ ν.1 111 0 = nI p)
theorem rd.of {n f : Nat} {μ ν μ' ν' : me_M} (h : rd n μ ν f) (hc : ∀ c ∈ [3, 301, 5, 500, 501, 502, 503, 1208, 1209], μ'.1 c = μ.1 c) (hd : ∀ c ∈ [100, 2, 103, 3, 105, 106, 107, 108, 111, 112], ν'.1 c = ν.1 c) : rd n μ' ν' f := by
  obtain ⟨h1, h2, h3, h4, h5⟩ := h
  refine ⟨h1.of (fun c hm => hc c ?_) (fun c hm => hd c ?_), h2, by rw [hc 1209 (by decide)]; exact h3, by rw [hd 112 (by decide)]; exact h4, fun e => ?_⟩
  · revert hm; revert c; decide
  · revert hm; revert c; decide
  · rw [hc 1208 (by decide), hd 111 (by decide)]; exact h5 e
theorem rd.fault {n f : Nat} {μ ν : me_M} (h : rd n μ ν 0) (hf : f ≤ 10) (h0 : f ≠ 0) : rd n (me_wi μ 1209 0 (nI f)) (me_wi ν 112 0 (nI f)) f := by
  obtain ⟨h1, h2, h3, h4, h5⟩ := h
  refine ⟨h1.of (fun c hm => me_wi_c _ _ _ _ ?_) (fun c hm => me_wi_c _ _ _ _ ?_), hf, me_wi_s _ _ _ _, me_wi_s _ _ _ _, fun e => absurd e h0⟩
  · revert hm; revert c; decide
  · revert hm; revert c; decide
theorem me_self (μ : me_M) (c i : Nat) : me_wi μ c i (μ.1 c i) = μ := by
  apply Prod.ext
  · funext d j
    rw [me_wi_at]
    by_cases h : d = c
    · subst h
      rw [if_pos rfl]
      by_cases g : j = i
      · subst g; rw [if_pos rfl]
      · rw [if_neg g]
    · rw [if_neg h]
  · rfl
theorem nI_eq0 {f : Nat} (h : f < 2 ^ 31) : nI f = 0 ↔ f = 0 := nI_eq (b := 0) h (by decide)
theorem bt_C {N n f : Nat} {μ : me_M} (h : μ.1 1209 0 = nI f) (hf : f ≤ 10) (h0 : f ≠ 0) : fD_nextBit N n μ = some (1, μ) := by
  unfold fD_nextBit fD_nextBit_26
  have ne : ¬ nI f = 0 := fun e => h0 ((nI_eq0 (by omega)).mp e)
  rw [h, if_neg ne, if_neg ne]
theorem bt_M {N f : Nat} {ν : me_M} (h : ν.1 112 0 = nI f) (hf : f ≤ 10) (h0 : f ≠ 0) : fM_next N ν = some (0, ν) := by
  unfold fM_next fM_next_18 fM_next_34
  rw [h, if_pos (show (0 : Int32) < nI f from nI_lt (a := 0) (by omega) (by omega)), if_neg (nI_nle (by omega) (by omega)), ← h, me_self]
theorem bt_next {N n f : Nat} {μ ν : me_M} (h : rd n μ ν f) : ∃ (b : Int32) (μ' : me_M) (b' : Int32) (ν' : me_M) (f' : Nat), fD_nextBit N n μ = some (b, μ') ∧ fM_next N ν = some (b', ν') ∧ me_fr [1208, 1209] [] μ μ' ∧ me_fr [111, 112] [] ν ν' ∧ rd n μ' ν' f' ∧ (f ≠ 0 → f' = f) ∧ ((f' = 0 ∧ ∃ z, z < 2 ∧ b = nI z ∧ b' = nI z) ∨ (f' ≠ 0 ∧ b = 1 ∧ b' = 0)) := by
  obtain ⟨h1, h2, h3, h4, h5⟩ := id h
  by_cases h0 : f = 0
  · subst h0
    obtain ⟨p, hp, e1, e2⟩ := h5 rfl
    obtain ⟨hn, ⟨bs, b1, b2, b3, b4⟩, -⟩ := id h1
    unfold fD_nextBit fD_nextBit_26 fM_next fM_next_18 fM_next_34
    rw [h3, h4, e1, e2, b3.1, b4.1]
    by_cases hl : p < bs.length
    · have hz : nI (p + 1) - 1 = nI p := nI_pred p
      refine ⟨nI (bs.getD p 0), me_wi μ 1208 0 (nI (p + 1)), nI (bs.getD p 0), me_wi ν 111 0 (nI (p + 1)), 0, ?_, ?_, me_fr.rf.wi (by decide), me_fr.rf.wi (by decide), ⟨h1.of (fun c hm => me_wi_c _ _ _ _ ?_) (fun c hm => me_wi_c _ _ _ _ ?_), by omega, by rw [me_wi_c _ _ _ _ (by decide)]; exact h3, by rw [me_wi_c _ _ _ _ (by decide)]; exact h4, fun _ => ⟨p + 1, by omega, me_wi_s _ _ _ _, me_wi_s _ _ _ _⟩⟩, fun e => absurd rfl e, Or.inl ⟨rfl, bs.getD p 0, ?_, rfl, rfl⟩⟩
      · rw [if_pos nI_0, if_pos (nI_lt hl (by omega)), if_pos nI_0, nI_1, me_wi_s, hz, ba_gi (by omega) (by decide), nI_clamp (by omega), me_wi_c _ _ _ _ (by decide), b3.2 p hl]
      · rw [if_neg (by decide), if_pos (nI_lt hl (by omega)), nI_1, me_wi_s, hz, ba_gi (by omega) (by decide), nI_clamp (by omega), me_wi_c _ _ _ _ (by decide), b4.2 p hl]
      · revert hm; revert c; decide
      · revert hm; revert c; decide
      · have : bs.getD p 0 ∈ bs := by
          rw [List.getD_eq_getElem?_getD, List.getElem?_eq_getElem hl]
          exact List.getElem_mem hl
        exact b1 _ this
    · refine ⟨1, me_wi μ 1209 0 (nI 1), 0, me_wi ν 112 0 (nI 1), 1, ?_, ?_, me_fr.rf.wi (by decide), me_fr.rf.wi (by decide), h.fault (by omega) (by omega), fun e => absurd rfl e, Or.inr ⟨by omega, rfl, rfl⟩⟩
      · rw [if_pos nI_0, if_neg (nI_nlt (by omega) (by omega)), me_wi_s, if_neg (by decide)]
        rfl
      · rw [if_neg (by decide), if_neg (nI_nlt (by omega) (by omega)), if_pos (by decide)]
        rfl
  · exact ⟨1, μ, 0, ν, f, bt_C h3 h2 h0, bt_M h4 h2 h0, me_fr.rf, me_fr.rf, h, fun _ => rfl, Or.inr ⟨h0, rfl, rfl⟩⟩
theorem bt_failT {N n f g : Nat} {μ : me_M} (h : μ.1 1209 0 = nI f) (hf : f ≤ 10) : fD_failIf N n 1 (nI g) μ = some (if f = 0 then me_wi μ 1209 0 (nI g) else μ) := by
  unfold fD_failIf fD_failIf_16
  rw [if_neg (by decide), h]
  by_cases e : f = 0
  · rw [if_pos e, if_pos ((nI_eq0 (by omega)).mpr e)]
  · rw [if_neg e, if_neg (fun q => e ((nI_eq0 (by omega)).mp q))]
theorem bt_failF {N n : Nat} {g : Int32} {μ : me_M} : fD_failIf N n 0 g μ = some μ := by
  unfold fD_failIf fD_failIf_16
  rw [if_pos rfl]
/- unary -/
theorem bt_unary {N n f : Nat} {μ ν : me_M} (hN : 4096 ≤ N) (h : rd n μ ν f) : ∃ (z : Nat) (μ' : me_M) (x' : Int32) (ν' : me_M) (f' : Nat), fD_nextUnary N n μ = some (nI z, μ') ∧ fM_nextUnary N ν = some (x', ν') ∧ me_fr [1208, 1209] [] μ μ' ∧ me_fr [111, 112] [] ν ν' ∧ rd n μ' ν' f' ∧ (f ≠ 0 → f' = f) ∧ z ≤ 7 ∧ ((f' = 0 ∧ z ≤ 6 ∧ x' = nI z) ∨ (f' ≠ 0 ∧ x' = 0)) := by
  have main : ∀ (m F E z f : Nat) (μ1 ν1 : me_M), z + m = 6 → m + 1 < F → m + 2 < E → me_fr [1208, 1209] [] μ μ1 → me_fr [111, 112] [] ν ν1 → rd n μ1 ν1 f → ∃ (z' : Nat) (μ' : me_M) (x' : Int32) (ν' : me_M) (f' : Nat), fD_nextUnary_2 N n F (nI z) μ1 = some (nI z', μ') ∧ fM_nextUnary_2 N E (nI z) ν1 = some (x', ν') ∧ me_fr [1208, 1209] [] μ μ' ∧ me_fr [111, 112] [] ν ν' ∧ rd n μ' ν' f' ∧ (f ≠ 0 → f' = f) ∧ z' ≤ 7 ∧ ((f' = 0 ∧ z' ≤ 6 ∧ x' = nI z') ∨ (f' ≠ 0 ∧ x' = 0)) := by
    intro m
    induction m with
    | zero =>
      intro F E z f μ1 ν1 hz hF hE k1 k2 hr
      obtain ⟨F, rfl⟩ : ∃ q, F = q + 2 := ⟨F - 2, by omega⟩
      obtain ⟨E, rfl⟩ : ∃ q, E = q + 3 := ⟨E - 3, by omega⟩
      have hz6 : z = 6 := by omega
      subst hz6
      show ∃ (z' : Nat) (μ' : me_M) (x' : Int32) (ν' : me_M) (f' : Nat), fD_nextUnary_2b N n (fD_nextUnary_2 N n (F + 1)) (nI 6) μ1 = some (nI z', μ') ∧ fM_nextUnary_2b N (fM_nextUnary_2 N (E + 2)) (nI 6) ν1 = some (x', ν') ∧ _
      unfold fD_nextUnary_2b fM_nextUnary_2b
      rw [if_neg (show ¬ (7 : Int32) ≤ nI 6 by decide)]
      obtain ⟨b, μ2, b', ν2, f2, q1, q2, q3, q4, q5, q6, q7⟩ := bt_next (N := N) hr
      obtain ⟨r1, r2, r3, r4, r5⟩ := id hr
      obtain ⟨s1, s2, s3, s4, s5⟩ := id q5
      rw [q1, ba_b]
      by_cases hf : f = 0
      · subst hf
        rw [r4, if_pos nI_0, q2, ba_b]
        rcases q7 with ⟨e0, w, hw, rfl, rfl⟩ | ⟨e0, rfl, rfl⟩
        · subst e0
          by_cases hw1 : w = 1
          · subst hw1
            rw [if_pos (show nI 1 = 1 from rfl), if_neg (show ¬ nI 1 = 0 by decide)]
            unfold fM_nextUnary_40 fM_nextUnary_52
            rw [s4, if_pos (by decide)]
            exact ⟨6, μ2, nI 6, ν2, 0, rfl, rfl, k1.tr q3, k2.tr q4, q5, fun e => absurd rfl e, by omega, Or.inl ⟨rfl, by omega, rfl⟩⟩
          · have hw0 : w = 0 := by omega
            subst hw0
            rw [if_neg (show ¬ nI 0 = 1 by decide), if_pos nI_0, s4, if_pos nI_0, if_pos (by decide)]
            show ∃ (z' : Nat) (μ' : me_M) (x' : Int32) (ν' : me_M) (f' : Nat), fD_nextUnary_2b N n (fD_nextUnary_2 N n F) (nI 6 + 1) μ2 = some (nI z', μ') ∧ fM_nextUnary_2b N (fM_nextUnary_2 N (E + 1)) (nI 6 + 1) (me_wi ν2 112 0 2) = some (x', ν') ∧ _
            unfold fD_nextUnary_2b fM_nextUnary_2b fD_nextUnary_24 fM_nextUnary_40 fM_nextUnary_52
            rw [if_pos (by decide), show (2 : Int32) = nI 2 from rfl, bt_failT s3 s2, if_pos rfl, ba_b, me_wi_s, if_neg (by decide), if_neg (by decide)]
            exact ⟨0, _, 0, _, 2, rfl, rfl, (k1.tr q3).wi (by decide), (k2.tr q4).wi (by decide), q5.fault (by omega) (by omega), fun e => absurd rfl e, by omega, Or.inr ⟨by omega, rfl⟩⟩
        · rw [if_pos rfl, if_pos rfl, s4, if_neg (fun q => e0 ((nI_eq0 (by omega)).mp q))]
          show ∃ (z' : Nat) (μ' : me_M) (x' : Int32) (ν' : me_M) (f' : Nat), some (nI 6, μ2) = some (nI z', μ') ∧ fM_nextUnary_2b N (fM_nextUnary_2 N (E + 1)) (nI 6 + 1) ν2 = some (x', ν') ∧ _
          unfold fM_nextUnary_2b fM_nextUnary_40 fM_nextUnary_52
          rw [s4, if_neg (fun q => e0 ((nI_eq0 (by omega)).mp q)), if_neg (nI_nle (by omega) (by omega))]
          exact ⟨6, μ2, 0, ν2, f2, rfl, rfl, k1.tr q3, k2.tr q4, q5, fun e => absurd rfl e, by omega, Or.inr ⟨e0, rfl⟩⟩
      · have hf2 := q6 hf
        subst hf2
        rcases q7 with ⟨e0, -⟩ | ⟨e0, rfl, rfl⟩
        · exact absurd e0 hf
        · rw [if_pos rfl, r4, if_neg (fun q => hf ((nI_eq0 (by omega)).mp q))]
          unfold fM_nextUnary_40 fM_nextUnary_52
          rw [r4, if_neg (nI_nle (by omega) (by omega))]
          rw [bt_C r3 r2 hf] at q1
          cases q1
          exact ⟨6, μ1, 0, ν1, f2, rfl, rfl, k1, k2, hr, fun _ => rfl, by omega, Or.inr ⟨hf, rfl⟩⟩
    | succ m ih =>
      intro F E z f μ1 ν1 hz hF hE k1 k2 hr
      obtain ⟨F, rfl⟩ : ∃ q, F = q + 1 := ⟨F - 1, by omega⟩
      obtain ⟨E, rfl⟩ : ∃ q, E = q + 2 := ⟨E - 2, by omega⟩
      show ∃ (z' : Nat) (μ' : me_M) (x' : Int32) (ν' : me_M) (f' : Nat), fD_nextUnary_2b N n (fD_nextUnary_2 N n F) (nI z) μ1 = some (nI z', μ') ∧ fM_nextUnary_2b N (fM_nextUnary_2 N (E + 1)) (nI z) ν1 = some (x', ν') ∧ _
      unfold fD_nextUnary_2b fM_nextUnary_2b
      rw [if_neg (show ¬ (7 : Int32) ≤ nI z from nI_ge (b := 7) (by omega) (by omega))]
      obtain ⟨b, μ2, b', ν2, f2, q1, q2, q3, q4, q5, q6, q7⟩ := bt_next (N := N) hr
      obtain ⟨r1, r2, r3, r4, r5⟩ := id hr
      obtain ⟨s1, s2, s3, s4, s5⟩ := id q5
      rw [q1, ba_b]
      by_cases hf : f = 0
      · subst hf
        rw [r4, if_pos nI_0, q2, ba_b]
        rcases q7 with ⟨e0, w, hw, rfl, rfl⟩ | ⟨e0, rfl, rfl⟩
        · subst e0
          by_cases hw1 : w = 1
          · subst hw1
            rw [if_pos (show nI 1 = 1 from rfl), if_neg (show ¬ nI 1 = 0 by decide)]
            unfold fM_nextUnary_40 fM_nextUnary_52
            rw [s4, if_pos (by decide)]
            exact ⟨z, μ2, nI z, ν2, 0, rfl, rfl, k1.tr q3, k2.tr q4, q5, fun e => absurd rfl e, by omega, Or.inl ⟨rfl, by omega, rfl⟩⟩
          · have hw0 : w = 0 := by omega
            subst hw0
            rw [if_neg (show ¬ nI 0 = 1 by decide), if_pos nI_0, s4, if_pos nI_0, nI_1, if_neg (fun q => by have := (nI_eq (a := z + 1) (b := 7) (by omega) (by omega)).mp q; omega)]
            exact ih F (E + 1) (z + 1) 0 μ2 ν2 (by omega) (by omega) (by omega) (k1.tr q3) (k2.tr q4) q5
        · rw [if_pos rfl, if_pos rfl, s4, if_neg (fun q => e0 ((nI_eq0 (by omega)).mp q))]
          show ∃ (z' : Nat) (μ' : me_M) (x' : Int32) (ν' : me_M) (f' : Nat), some (nI z, μ2) = some (nI z', μ') ∧ fM_nextUnary_2b N (fM_nextUnary_2 N E) (nI z + 1) ν2 = some (x', ν') ∧ _
          unfold fM_nextUnary_2b fM_nextUnary_40 fM_nextUnary_52
          rw [s4, if_neg (fun q => e0 ((nI_eq0 (by omega)).mp q)), if_neg (nI_nle (by omega) (by omega))]
          exact ⟨z, μ2, 0, ν2, f2, rfl, rfl, k1.tr q3, k2.tr q4, q5, fun e => absurd rfl e, by omega, Or.inr ⟨e0, rfl⟩⟩
      · have hf2 := q6 hf
        subst hf2
        rcases q7 with ⟨e0, -⟩ | ⟨e0, rfl, rfl⟩
        · exact absurd e0 hf
        · rw [if_pos rfl, r4, if_neg (fun q => hf ((nI_eq0 (by omega)).mp q))]
          unfold fM_nextUnary_40 fM_nextUnary_52
          rw [r4, if_neg (nI_nle (by omega) (by omega))]
          rw [bt_C r3 r2 hf] at q1
          cases q1
          exact ⟨z, μ1, 0, ν1, f2, rfl, rfl, k1, k2, hr, fun _ => rfl, by omega, Or.inr ⟨hf, rfl⟩⟩
  exact main 6 N N 0 f μ ν (by omega) (by omega) (by omega) me_fr.rf me_fr.rf h
