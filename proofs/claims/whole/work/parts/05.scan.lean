/-! scans and counts -/
def bw_ct (f : Nat → Bool) : Nat → Nat
  | 0 => 0
  | k + 1 => bw_ct f k + (if f (k + 1) then 1 else 0)
theorem bw_ctT {f : Nat → Bool} {k : Nat} (h : f (k + 1) = true) : bw_ct f (k + 1) = bw_ct f k + 1 := by rw [bw_ct, if_pos h]
theorem bw_ctF {f : Nat → Bool} {k : Nat} (h : f (k + 1) = false) : bw_ct f (k + 1) = bw_ct f k := by rw [bw_ct, if_neg (by rw [h]; decide), Nat.add_zero]
theorem bw_ctC {f g : Nat → Bool} : ∀ e, (∀ k, 1 ≤ k → k ≤ e → f k = g k) → bw_ct f e = bw_ct g e := by
  intro e
  induction e with
  | zero => intro _; rfl
  | succ e ih => intro h; rw [bw_ct, bw_ct, ih (fun k h1 h2 => h k h1 (by omega)), h (e + 1) (by omega) (by omega)]
theorem bw_ctLe (f : Nat → Bool) : ∀ e, bw_ct f e ≤ e := by
  intro e
  induction e with
  | zero => exact Nat.le_refl _
  | succ e ih =>
    cases h : f (e + 1) with
    | true => rw [bw_ctT h]; omega
    | false => rw [bw_ctF h]; omega
theorem bw_ctA {f : Nat → Bool} : ∀ e, (∀ k, 1 ≤ k → k ≤ e → f k = true) → bw_ct f e = e := by
  intro e
  induction e with
  | zero => intro _; rfl
  | succ e ih => intro h; rw [bw_ctT (h (e + 1) (by omega) (by omega)), ih (fun k h1 h2 => h k h1 (by omega))]
theorem bw_ctN {f : Nat → Bool} : ∀ e, (∃ k, 1 ≤ k ∧ k ≤ e ∧ f k = false) → bw_ct f e < e := by
  intro e
  induction e with
  | zero => intro ⟨k, h1, h2, _⟩; omega
  | succ e ih =>
    intro ⟨k, h1, h2, h3⟩
    have hl := bw_ctLe f e
    cases h : f (e + 1) with
    | false => rw [bw_ctF h]; omega
    | true =>
      have hk : k ≠ e + 1 := by
        intro z
        rw [z, h] at h3
        exact absurd h3 (by decide)
      have := ih ⟨k, h1, by omega, h3⟩
      rw [bw_ctT h]; omega
/-- row k is none of the rows before it -/
def bw_fr (F : Nat → Int32) (k : Nat) : Bool := decide (∀ q, q < k → 1 ≤ q → F q ≠ F k)
theorem bw_frT {F : Nat → Int32} {k : Nat} (h : ∀ q, q < k → 1 ≤ q → F q ≠ F k) : bw_fr F k = true := decide_eq_true h
theorem bw_frF {F : Nat → Int32} {k q : Nat} (hq : q < k) (h1 : 1 ≤ q) (h : F q = F k) : bw_fr F k = false := decide_eq_false (fun z => z q hq h1 h)
theorem bw_frC {F G : Nat → Int32} {e : Nat} (h : ∀ q, q ≤ e → F q = G q) {k : Nat} (hk : k ≤ e) : bw_fr F k = bw_fr G k := by
  unfold bw_fr
  apply decide_eq_decide.mpr
  constructor
  · intro a q h1 h2; rw [← h q (by omega), ← h k hk]; exact a q h1 h2
  · intro a q h1 h2; rw [h q (by omega), h k hk]; exact a q h1 h2
section
variable {fb fc fl : Int32} {m cl t R B : Nat → Int32}
theorem xr_amL {post : Int32 → Prop} {x : Int32} {a b : Nat} (hb : b < 253) (h1 : (∃ q, a ≤ q ∧ q ≤ b ∧ R q = x) → post 1) (h0 : (∀ q, a ≤ q → q ≤ b → R q ≠ x) → post 0) : ∀ k p, a ≤ p → b < p + k → p < 300 → (∀ q, a ≤ q → q < p → R q ≠ x) → wX_isAmong_3 post x (nI b) fb fc fl m cl t R B (k + 1) (nI p) := by
  intro k
  induction k with
  | zero =>
    intro p ha h hp hq
    exact br_t (nI_lt (by omega) (by omega)) (h0 (fun q h2 h3 => hq q h2 (by omega)))
  | succ k ih =>
    intro p ha h hp hq
    by_cases hbp : b < p
    · exact br_t (nI_lt hbp (by omega)) (h0 (fun q h2 h3 => hq q h2 (by omega)))
    · refine br_f (nI_nlt (by omega) (by omega)) ⟨vp_in_nI (by omega) (by omega), ?_⟩
      rw [nI_clamp (by omega)]
      by_cases hx : R p = x
      · exact br_t hx (h1 ⟨p, ha, by omega, hx⟩)
      · refine br_f hx (nm_r (nI_1 p) (ih (p + 1) (by omega) (by omega) (by omega) (fun q h2 h3 => ?_)))
        by_cases e : q = p
        · rw [e]; exact hx
        · exact hq q h2 (by omega)
theorem xr_among {post : Int32 → Prop} {x : Int32} {a b : Nat} (ha : a < 253) (hb : b < 253) (h1 : (∃ q, a ≤ q ∧ q ≤ b ∧ R q = x) → post 1) (h0 : (∀ q, a ≤ q → q ≤ b → R q ≠ x) → post 0) : wpX_isAmong post (fb, fc, fl, m, cl, t, R, B) x (nI a) (nI b) :=
  ⟨b + 2, xr_amL hb h1 h0 (b + 1) a (Nat.le_refl _) (by omega) (by omega) (fun q h2 h3 => absurd h3 (by omega))⟩
/-- is row p among those before it -/
theorem xr_old {post : Int32 → Prop} {p : Nat} (hp : 1 ≤ p) (hb : p < 253) (h1 : bw_fr R p = false → post 1) (h0 : bw_fr R p = true → post 0) : wpX_isAmong post (fb, fc, fl, m, cl, t, R, B) (R (nI p).toNatClampNeg) 1 (nI p - 1) := by
  rw [nI_clamp (by omega), show nI p - 1 = nI (p - 1) from pk_sub (b := 1) hp]
  refine xr_among (a := 1) (by omega) (by omega) (fun ⟨q, a, b, e⟩ => h1 (bw_frF (by omega) a e)) (fun h => h0 (bw_frT (fun q a b => h q b (by omega))))
theorem xr_repL {post : Int32 → Prop} {e : Nat} (he : e < 253) (h1 : (∃ k, 1 ≤ k ∧ k ≤ e ∧ bw_fr R k = false) → post 1) (h0 : (∀ k, 1 ≤ k → k ≤ e → bw_fr R k = true) → post 0) : ∀ k p, 2 ≤ p → e < p + k → p < 300 → (∀ q, 1 ≤ q → q < p → bw_fr R q = true) → wX_hasRepeat_2 post (nI e) fb fc fl m cl t R B (k + 1) (nI p) := by
  intro k
  induction k with
  | zero =>
    intro p ha h hp hq
    exact br_t (nI_lt (by omega) (by omega)) (h0 (fun q h2 h3 => hq q h2 (by omega)))
  | succ k ih =>
    intro p ha h hp hq
    by_cases hbp : e < p
    · exact br_t (nI_lt hbp (by omega)) (h0 (fun q h2 h3 => hq q h2 (by omega)))
    · refine br_f (nI_nlt (by omega) (by omega)) ⟨vp_in_nI (by omega) (by omega), ?_⟩
      refine xr_old (by omega) (by omega) (fun hx => br_f bw_10 (h1 ⟨p, by omega, by omega, hx⟩)) (fun hx => br_t rfl (nm_r (nI_1 p) (ih (p + 1) (by omega) (by omega) (by omega) (fun q h2 h3 => ?_))))
      by_cases e : q = p
      · rw [e]; exact hx
      · exact hq q h2 (by omega)
theorem xr_rep {post : Int32 → Prop} {e : Nat} (he : e < 253) (h1 : bw_ct (bw_fr R) e < e → post 1) (h0 : bw_ct (bw_fr R) e = e → post 0) : wpX_hasRepeat post (fb, fc, fl, m, cl, t, R, B) (nI e) :=
  ⟨e + 1, xr_repL he (fun h => h1 (bw_ctN e h)) (fun h => h0 (bw_ctA e h)) e 2 (by omega) (by omega) (by omega) (fun q h2 h3 => bw_frT (fun r h4 h5 => absurd h4 (by omega)))⟩
theorem xr_difL {post : Int32 → SX → Prop} {e : Nat} (he : e < 253) (hp : post (nI (bw_ct (bw_fr R) e)) (fb, fc, fl, m, cl, t, R, B)) : ∀ k p, p + k = e → wX_different_13 post (nI e) fb fc fl m cl t R B (k + 1) (nI (bw_ct (bw_fr R) p)) (nI (p + 1)) := by
  intro k
  induction k with
  | zero =>
    intro p h
    obtain rfl : p = e := by omega
    exact br_t (nI_lt (by omega) (by omega)) hp
  | succ k ih =>
    intro p h
    have hi := ih (p + 1) (by omega)
    refine br_f (nI_nlt (by omega) (by omega)) ⟨vp_in_nI (by omega) (by omega), ?_⟩
    refine xr_old (by omega) (by omega) (fun hx => br_f bw_10 (nm_r (nI_1 _) ?_)) (fun hx => br_t rfl (nm_r (nI_1 _) (nm_r (nI_1 _) ?_)))
    · rw [bw_ctF hx] at hi; exact hi
    · rw [bw_ctT hx] at hi; exact hi
end
section
variable {fn fs fc : Int32} {m cl t R B : Nat → Int32}
theorem yr_cdA {post : Int32 → Prop} {J : Int32 → Int32 → Prop} {e : Int32} {x p : Nat} (hp : p < 260) (hJ : J (nI x) (nI (p + 1))) : ∀ k q, q + k = p → wY_countDifferent_17 post J (nI x) (nI p) fn fs fc e m cl t B R (k + 1) 0 (nI q) := by
  intro k
  induction k with
  | zero =>
    intro q h
    exact br_t (nI_le (by omega) (by omega)) (br_t rfl (nm_r (nI_1 _) hJ))
  | succ k ih =>
    intro q h
    exact br_f (nI_ge (by omega) (by omega)) (br_t rfl (nm_r (nI_1 _) (ih (q + 1) (by omega))))
theorem yr_cdB {post : Int32 → Prop} {J : Int32 → Int32 → Prop} {e : Int32} {x p : Nat} (hp : p < 260) (h1 : bw_fr R p = true → J (nI (x + 1)) (nI (p + 1))) (h0 : bw_fr R p = false → J (nI x) (nI (p + 1))) : ∀ k q, q + k = p → 1 ≤ q → (∀ r, r < q → 1 ≤ r → R r ≠ R p) → wY_countDifferent_17 post J (nI x) (nI p) fn fs fc e m cl t B R (k + 1) 1 (nI q) := by
  intro k
  induction k with
  | zero =>
    intro q h hq hr
    obtain rfl : q = p := by omega
    exact br_t (nI_le (by omega) (by omega)) (br_f bw_10 (nm_r (nI_1 _) (nm_r (nI_1 _) (h1 (bw_frT hr)))))
  | succ k ih =>
    intro q h hq hr
    refine br_f (nI_ge (by omega) (by omega)) (br_f bw_10 ⟨vp_in_nI (by omega) (by omega), vp_in_nI (by omega) (by omega), ?_⟩)
    rw [nI_clamp (by omega), nI_clamp (by omega)]
    by_cases hx : R q = R p
    · exact br_t hx (nm_r (nI_1 _) (yr_cdA hp (h0 (bw_frF (by omega) hq hx)) k (q + 1) (by omega)))
    · refine br_f hx (nm_r (nI_1 _) (ih (q + 1) (by omega) (by omega) (fun r h2 h3 => ?_)))
      by_cases e : r = q
      · rw [e]; exact hx
      · exact hr r (by omega) h3
theorem yr_cdL {post : Int32 → Prop} {e : Nat} (he : e < 260) (hp : post (nI (bw_ct (bw_fr R) e))) : ∀ k p, p + k = e → wY_countDifferent_4 post fn fs fc (nI e) m cl t B R (k + 1) (nI (bw_ct (bw_fr R) p)) (nI (p + 1)) := by
  intro k
  induction k with
  | zero =>
    intro p h
    obtain rfl : p = e := by omega
    exact br_t (nI_lt (by omega) (by omega)) hp
  | succ k ih =>
    intro p h
    have hi := ih (p + 1) (by omega)
    refine br_f (nI_nlt (by omega) (by omega)) ⟨p + 1, yr_cdB (by omega) (fun hx => ?_) (fun hx => ?_) p 1 (by omega) (by omega) (fun r h2 h3 => absurd h2 (by omega))⟩
    · rw [bw_ctT hx] at hi; exact hi
    · rw [bw_ctF hx] at hi; exact hi
theorem yr_cd {post : Int32 → Prop} {e : Nat} (he : e < 260) (hp : post (nI (bw_ct (bw_fr R) e))) : wpY_countDifferent post (fn, fs, fc, nI e, m, cl, t, B, R) :=
  ⟨e + 1, yr_cdL he hp e 0 (by omega)⟩
end
