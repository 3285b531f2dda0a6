/-! places of bells; pairs of leads -/
theorem bw_dg {g : Nat → Nat} {p : Nat} (h : g p < 6) : bw_cd g (p + 1) % 10 = g p + 1 ∧ bw_cd g (p + 1) / 10 = bw_cd g p := by
  rw [bw_cd]; omega
theorem bw_rem {n : Nat} (h : n < 1000000) : nI n - nI n / 10 * 10 = nI (n % 10) := pk_rem (d := 10) (by omega) (by decide) (by decide)
theorem bw_div {n : Nat} (h : n < 1000000) : nI n / 10 = nI (n / 10) := pk_div (d := 10) (by omega) (by decide) (by decide)
theorem bw_t0 : ¬ (10 : Int32) = 0 := by decide
section
variable {N y q : Nat} {g : Nat → Nat} {fs fc fl : Int32} {m cl t R B : Nat → Int32}
theorem xr_plL {post : Int32 → Prop} {fb : Int32} (hN : N ≤ 6) (hg : bw_Pm N g) (hq : q < N) (hy : g q + 1 = y) (hp : post (nI q)) : ∀ p, p < N → q ≤ p → wX_placeIn_10 post (nI y) fb fc fl m cl t R B (p + 1) (nI (bw_cd g (p + 1))) (nI p) := by
  intro p
  have hl := bw_PmL hg
  induction p with
  | zero =>
    intro _ h
    obtain rfl : q = 0 := by omega
    exact br_t (nI_le (a := 0) (b := 0) (by decide) (by decide)) hp
  | succ p ih =>
    intro h1 h2
    have hc := bw_cdL hN hl (p := p + 1 + 1) (by omega)
    have hd := bw_dg (g := g) (p := p + 1) (by have := hl (p + 1) h1; omega)
    have hq6 := hl q hq
    have hp6 := hl (p + 1) h1
    refine br_f (nI_nle (by omega) (by omega)) ⟨bw_t0, ?_⟩
    rw [bw_rem hc, bw_div hc, hd.1, hd.2]
    refine pk_eq (g (p + 1) + 1) y (fun e => ?_) (fun e => ⟨bw_t0, nm_e (nm_r (pk_m1 p) (ih (by omega) ?_))⟩)
    · rw [bw_PmInj hg h1 hq (by omega)]; exact hp
    · have : q ≠ p + 1 := by
        intro z
        rw [z] at hy
        exact e hy
      omega
theorem xr_plc {post : Int32 → Prop} (hN : N ≤ 6) (hg : bw_Pm N g) (hq : q < N) (hy : g q + 1 = y) (hp : post (nI q)) : wpX_placeIn post (nI N, fc, fl, m, cl, t, R, B) (nI (bw_cd g N)) (nI y) := by
  have h := xr_plL (fb := nI N) (fc := fc) (fl := fl) (m := m) (cl := cl) (t := t) (R := R) (B := B) hN hg hq hy hp (N - 1) (by omega) (by omega)
  rw [show N - 1 + 1 = N from by omega] at h
  exact nm_r (show nI N - 1 = nI (N - 1) from pk_sub (b := 1) (by omega)) ⟨N, h⟩
theorem yr_plL {post : Int32 → SY → Prop} {fb : Int32} (hN : N ≤ 6) (hg : bw_Pm N g) (hq : q < N) (hy : g q + 1 = y) (hp : post (nI q) (fb, fs, fc, fl, m, cl, t, B, R)) : ∀ p, p < N → q ≤ p → wY_place_37 post (nI y) fb fs fc fl m cl t B R (p + 1) (nI (bw_cd g (p + 1))) (nI p) := by
  intro p
  have hl := bw_PmL hg
  induction p with
  | zero =>
    intro h1 h
    obtain rfl : q = 0 := by omega
    have hc := bw_cdL hN hl (p := 0 + 1) (by omega)
    have hd := bw_dg (g := g) (p := 0) (by have := hl 0 h1; omega)
    refine ⟨bw_t0, ?_⟩
    rw [bw_rem hc, hd.1]
    exact br_t (by rw [hy]) hp
  | succ p ih =>
    intro h1 h2
    have hc := bw_cdL hN hl (p := p + 1 + 1) (by omega)
    have hd := bw_dg (g := g) (p := p + 1) (by have := hl (p + 1) h1; omega)
    have hq6 := hl q hq
    have hp6 := hl (p + 1) h1
    refine ⟨bw_t0, ?_⟩
    rw [bw_rem hc, bw_div hc, hd.1, hd.2]
    refine pk_eq (g (p + 1) + 1) y (fun e => ?_) (fun e => ⟨bw_t0, nm_e (nm_r (pk_m1 p) (ih (by omega) ?_))⟩)
    · rw [bw_PmInj hg h1 hq (by omega)]; exact hp
    · have : q ≠ p + 1 := by
        intro z
        rw [z] at hy
        exact e hy
      omega
theorem yr_plc {post : Int32 → SY → Prop} (hN : N ≤ 6) (hg : bw_Pm N g) (hq : q < N) (hy : g q + 1 = y) (hp : post (nI q) (nI N, fs, fc, fl, m, cl, t, B, R)) : ∀ x : Int32, x = nI N - 1 → ∃ n, wY_place_37 post (nI y) (nI N) fs fc fl m cl t B R n (nI (bw_cd g N)) x := by
  have h := yr_plL hN hg hq hy hp (N - 1) (by omega) (by omega)
  rw [show N - 1 + 1 = N from by omega] at h
  exact nm_r (show nI N - 1 = nI (N - 1) from pk_sub (b := 1) (by omega)) ⟨N, h⟩
end
/-- every bell has its place -/
theorem bw_PmF {N : Nat} {g : Nat → Nat} (hg : bw_Pm N g) {y : Nat} (h1 : 1 ≤ y) (h2 : y ≤ N) : ∃ q, q < N ∧ g q + 1 = y := by
  obtain ⟨f, hf⟩ := hg
  have h := hf (y - 1) (by omega)
  exact ⟨f (y - 1), h.2.1, by rw [h.2.2.1]; omega⟩
section
variable {N y e : Nat} {gs : Nat → (Nat → Nat)} {fs fc fl : Int32} {m cl t R B : Nat → Int32}
theorem xr_lsL {post : Int32 → SX → Prop} (hN : N ≤ 6) (he : e < 253) (h1 : 1 ≤ y) (h2 : y ≤ N) (hg : ∀ k, bw_Pm N (gs k)) (hR : ∀ k, k ≤ e → R k = nI (bw_cd (gs k) N)) (hp : post (nI (bw_ct (fun k => decide (gs k 0 + 1 = y)) e)) (nI N, fc, fl, m, cl, t, R, B)) : ∀ k p, p + k = e → wX_leads_24 post (nI y) (nI e) (nI N) fc fl m cl t R B (k + 1) (nI (bw_ct (fun k => decide (gs k 0 + 1 = y)) p)) (nI (p + 1)) := by
  intro k
  induction k with
  | zero =>
    intro p h
    obtain rfl : p = e := by omega
    exact br_t (nI_lt (by omega) (by omega)) hp
  | succ k ih =>
    intro p h
    have hi := ih (p + 1) (by omega)
    refine br_f (nI_nlt (by omega) (by omega)) ⟨vp_in_nI (by omega) (by omega), ?_⟩
    rw [nI_clamp (by omega), hR (p + 1) (by omega)]
    obtain ⟨q, hq, hy⟩ := bw_PmF (hg (p + 1)) h1 h2
    refine xr_plc hN (hg (p + 1)) hq hy ?_
    by_cases hq0 : q = 0
    · subst hq0
      rw [bw_ctT (decide_eq_true hy)] at hi
      exact br_t rfl (nm_r (nI_1 _) (nm_r (nI_1 _) hi))
    · rw [bw_ctF (decide_eq_false (fun z => hq0 (bw_PmInj (hg (p + 1)) hq (by omega) (by omega))))] at hi
      exact br_f (nI_ne0 (by omega) (by omega)) (nm_r (nI_1 _) hi)
theorem yr_lsL {post : Int32 → SY → Prop} (h3 : 1 ≤ N) (hN : N ≤ 6) (he : e < 260) (h1 : 1 ≤ y) (h2 : y ≤ N) (hg : ∀ k, bw_Pm N (gs k)) (hR : ∀ k, k ≤ e → R k = nI (bw_cd (gs k) N)) (hp : post (nI (bw_ct (fun k => decide (gs k 0 + 1 = y)) e)) (nI N, fs, fc, nI e, m, cl, t, B, R)) : ∀ k p, p + k = e → wY_leads_42 post (nI y) (nI (10 ^ (N - 1))) (nI N) fs fc (nI e) m cl t B R (k + 1) (nI (bw_ct (fun k => decide (gs k 0 + 1 = y)) p)) (nI (p + 1)) := by
  intro k
  have ht : 10 ^ (N - 1) ≤ 10 ^ 5 := Nat.pow_le_pow_right (by decide) (by omega)
  have ht0 : 0 < 10 ^ (N - 1) := Nat.pow_pos (by decide)
  have ht1 : 10 ^ 5 = 100000 := by decide
  induction k with
  | zero =>
    intro p h
    obtain rfl : p = e := by omega
    exact br_t (nI_lt (by omega) (by omega)) hp
  | succ k ih =>
    intro p h
    have hi := ih (p + 1) (by omega)
    have hl := bw_PmL (hg (p + 1))
    have hc := bw_cdL hN hl (p := N) (by omega)
    have h0 := hl 0 (by omega)
    refine br_f (nI_nlt (by omega) (by omega)) ⟨vp_in_nI (by omega) (by omega), nI_ne0 ht0 (by omega), ?_⟩
    rw [nI_clamp (by omega), hR (p + 1) (by omega), pk_div (by omega) ht0 (by omega), bw_cdH h3 hN hl]
    refine pk_eq (gs (p + 1) 0 + 1) y (fun z => ?_) (fun z => ?_)
    · rw [bw_ctT (decide_eq_true z)] at hi
      exact nm_r (nI_1 _) (nm_r (nI_1 _) hi)
    · rw [bw_ctF (decide_eq_false z)] at hi
      exact nm_r (nI_1 _) hi
theorem yr_top {post : Int32 → SY → Prop} (h3 : 1 ≤ N) (hN : N ≤ 6) (hp : ∃ n, wY_leads_42 post (nI y) (nI (10 ^ (N - 1))) (nI N) fs fc fl m cl t B R n 0 1) : ∀ k p, p + 1 + k = N → wY_leads_18 post (nI y) (nI N) fs fc fl m cl t B R (k + 1) (nI (10 ^ p)) (nI (p + 1)) := by
  intro k
  induction k with
  | zero =>
    intro p h
    obtain rfl : N = p + 1 := by omega
    exact br_t (nI_le (by omega) (by omega)) hp
  | succ k ih =>
    intro p h
    refine br_f (nI_ge (by omega) (by omega)) (nm_r (e' := nI (10 ^ (p + 1))) ?_ (nm_r (nI_1 _) (ih (p + 1) (by omega))))
    rw [Nat.pow_succ, Nat.mul_comm, ← pk_mul]
    rfl
end
/-- a row belongs to the leads a and b -/
def bw_sh (s : Nat) (R : Nat → Int32) (a b : Nat) : Prop := ∃ i j, 1 ≤ i ∧ i ≤ s ∧ 1 ≤ j ∧ j ≤ s ∧ R (a * s + i) = R (b * s + j)
section
variable {s c a b : Nat} {fb fl : Int32} {m cl t R B : Nat → Int32}
theorem xr_shL {post : Int32 → Prop} (hs : s ≤ 12) (ha : a * s + s < 253) (hb : b * s + s < 253) (h1 : bw_sh s R a b → post 1) (h0 : ¬ bw_sh s R a b → post 0) : ∀ k p, p + k = s → (∀ i j, 1 ≤ i → i ≤ s → 1 ≤ j → j ≤ p → R (a * s + i) ≠ R (b * s + j)) → wX_shareRow_18 post (nI (a * s)) (nI (b * s)) fb (nI s) fl m cl t R B (k + 1) (nI (p + 1)) := by
  intro k
  induction k with
  | zero =>
    intro p h hr
    exact br_t (nI_lt (by omega) (by omega)) (h0 (fun ⟨i, j, q1, q2, q3, q4, e⟩ => hr i j q1 q2 q3 (by omega) e))
  | succ k ih =>
    intro p h hr
    refine br_f (nI_nlt (by omega) (by omega)) ?_
    rw [nI_add, nI_add, nI_1 (a * s), nI_clamp (by omega)]
    refine ⟨vp_in_nI (by omega) (by omega), xr_among (by omega) (by omega) (fun ⟨q, q1, q2, e⟩ => br_f bw_10 (h1 ⟨q - a * s, p + 1, by omega, by omega, by omega, by omega, ?_⟩)) (fun hn => br_t rfl (nm_r (nI_1 _) (ih (p + 1) (by omega) (fun i j q1 q2 q3 q4 => ?_))))⟩
    · rw [show a * s + (q - a * s) = q from by omega]; exact e
    · by_cases z : j = p + 1
      · rw [z]; exact hn _ (by omega) (by omega)
      · exact hr i j q1 q2 q3 (by omega)
theorem xr_share {post : Int32 → Prop} (hs : s ≤ 12) (ha : a * s + s < 253) (hb : b * s + s < 253) (h1 : bw_sh s R a b → post 1) (h0 : ¬ bw_sh s R a b → post 0) : wpX_shareRow post (fb, nI s, fl, m, cl, t, R, B) (nI a) (nI b) :=
  nm_r (pk_mul a s) (nm_r (pk_mul b s) ⟨s + 1, xr_shL hs ha hb h1 h0 s 0 (by omega) (fun i j _ _ q3 q4 => absurd q3 (by omega))⟩)
theorem yr_shI {post : Int32 → Prop} {J : Int32 → Prop} {fc : Int32} {i : Nat} (hs : s ≤ 12) (hi : 1 ≤ i) (his : i ≤ s) (ha : a * s + s < 260) (hb : b * s + s < 260) (h1 : bw_sh s R a b → post 1) (h0 : (∀ j, 1 ≤ j → j ≤ s → R (a * s + i) ≠ R (b * s + j)) → J (nI (i + 1))) : ∀ k p, p + k = s → (∀ j, 1 ≤ j → j ≤ p → R (a * s + i) ≠ R (b * s + j)) → wY_share_13 post J (nI a) (nI b) (nI i) fb (nI s) fc fl m cl t B R (k + 1) (nI (p + 1)) := by
  intro k
  induction k with
  | zero =>
    intro p h hr
    exact br_t (nI_lt (by omega) (by omega)) (nm_r (nI_1 _) (h0 (fun j q1 q2 => hr j q1 (by omega))))
  | succ k ih =>
    intro p h hr
    refine br_f (nI_nlt (by omega) (by omega)) ?_
    rw [pk_mul, pk_mul, nI_add, nI_add, nI_clamp (by omega), nI_clamp (by omega)]
    refine ⟨vp_in_nI (by omega) (by omega), vp_in_nI (by omega) (by omega), ?_⟩
    by_cases hx : R (a * s + i) = R (b * s + (p + 1))
    · exact br_t hx (h1 ⟨i, p + 1, hi, his, by omega, by omega, hx⟩)
    · refine br_f hx (nm_r (nI_1 _) (ih (p + 1) (by omega) (fun j q1 q2 => ?_)))
      by_cases z : j = p + 1
      · rw [z]; exact hx
      · exact hr j q1 (by omega)
theorem yr_shL {post : Int32 → Prop} {fc : Int32} (hs : s ≤ 12) (ha : a * s + s < 260) (hb : b * s + s < 260) (h1 : bw_sh s R a b → post 1) (h0 : ¬ bw_sh s R a b → post 0) : ∀ k p, p + k = s → (∀ i j, 1 ≤ i → i ≤ p → 1 ≤ j → j ≤ s → R (a * s + i) ≠ R (b * s + j)) → wY_share_2 post (nI a) (nI b) fb (nI s) fc fl m cl t B R (k + 1) (nI (p + 1)) := by
  intro k
  induction k with
  | zero =>
    intro p h hr
    exact br_t (nI_lt (by omega) (by omega)) (h0 (fun ⟨i, j, q1, q2, q3, q4, e⟩ => hr i j q1 (by omega) q3 q4 e))
  | succ k ih =>
    intro p h hr
    refine br_f (nI_nlt (by omega) (by omega)) ⟨s + 1, yr_shI hs (by omega) (by omega) ha hb h1 (fun hn => ih (p + 1) (by omega) (fun i j q1 q2 q3 q4 => ?_)) s 0 (by omega) (fun j q1 q2 => absurd q1 (by omega))⟩
    by_cases z : i = p + 1
    · rw [z]; exact hn j q3 q4
    · exact hr i j q1 (by omega) q3 q4
theorem yr_share {post : Int32 → Prop} {fc : Int32} (hs : s ≤ 12) (ha : a * s + s < 260) (hb : b * s + s < 260) (h1 : bw_sh s R a b → post 1) (h0 : ¬ bw_sh s R a b → post 0) : wpY_share post (fb, nI s, fc, fl, m, cl, t, B, R) (nI a) (nI b) :=
  ⟨s + 1, yr_shL hs ha hb h1 h0 s 0 (by omega) (fun i j q1 q2 _ _ => absurd q1 (by omega))⟩
end
noncomputable def bw_S (s : Nat) (R : Nat → Int32) (a b : Nat) : Nat := @ite Nat (bw_sh s R a b) (Classical.propDecidable _) 1 0
theorem bw_S1 {s : Nat} {R : Nat → Int32} {a b : Nat} (h : bw_sh s R a b) : bw_S s R a b = 1 := by unfold bw_S; exact if_pos h
theorem bw_S0 {s : Nat} {R : Nat → Int32} {a b : Nat} (h : ¬ bw_sh s R a b) : bw_S s R a b = 0 := by unfold bw_S; exact if_neg h
theorem bw_shC {s e : Nat} {R F : Nat → Int32} (h : ∀ q, q ≤ e → R q = F q) {a b : Nat} (ha : a * s + s ≤ e) (hb : b * s + s ≤ e) : bw_sh s R a b ↔ bw_sh s F a b := by
  constructor
  · intro ⟨i, j, q1, q2, q3, q4, z⟩
    rw [h _ (by omega), h _ (by omega)] at z
    exact ⟨i, j, q1, q2, q3, q4, z⟩
  · intro ⟨i, j, q1, q2, q3, q4, z⟩
    rw [← h _ (by omega), ← h _ (by omega)] at z
    exact ⟨i, j, q1, q2, q3, q4, z⟩
def bw_sm (f : Nat → Nat) : Nat → Nat
  | 0 => 0
  | n + 1 => bw_sm f n + f n
theorem bw_smC {f g : Nat → Nat} : ∀ n, (∀ i, i < n → f i = g i) → bw_sm f n = bw_sm g n := by
  intro n
  induction n with
  | zero => intro _; rfl
  | succ n ih => intro h; rw [bw_sm, bw_sm, ih (fun i hi => h i (by omega)), h n (by omega)]
theorem bw_smA (f g : Nat → Nat) : ∀ n, bw_sm (fun i => f i + g i) n = bw_sm f n + bw_sm g n := by
  intro n
  induction n with
  | zero => rfl
  | succ n ih => rw [bw_sm, bw_sm, bw_sm, ih]; omega
theorem bw_sm0 {f : Nat → Nat} : ∀ n, (∀ i, i < n → f i = 0) → bw_sm f n = 0 := by
  intro n
  induction n with
  | zero => intro _; rfl
  | succ n ih => intro h; rw [bw_sm, ih (fun i hi => h i (by omega)), h n (by omega)]
theorem bw_swap (S : Nat → Nat → Nat) : ∀ c, bw_sm (fun b => bw_sm (fun a => S a b) b) c = bw_sm (fun a => bw_sm (fun b => if a < b then S a b else 0) c) c := by
  intro c
  induction c with
  | zero => rfl
  | succ c ih =>
    have e1 : bw_sm (fun a => bw_sm (fun b => if a < b then S a b else 0) (c + 1)) (c + 1) = bw_sm (fun a => bw_sm (fun b => if a < b then S a b else 0) c) (c + 1) + bw_sm (fun a => if a < c then S a c else 0) (c + 1) :=
      bw_smA (fun a => bw_sm (fun b => if a < b then S a b else 0) c) (fun a => if a < c then S a c else 0) (c + 1)
    have e2 : bw_sm (fun b => if c < b then S c b else 0) c = 0 := bw_sm0 c (fun i hi => if_neg (by omega))
    have e3 : bw_sm (fun a => if a < c then S a c else 0) c = bw_sm (fun a => S a c) c := bw_smC c (fun i hi => if_pos hi)
    rw [e1]
    show bw_sm (fun b => bw_sm (fun a => S a b) b) c + bw_sm (fun a => S a c) c = bw_sm (fun a => bw_sm (fun b => if a < b then S a b else 0) c) c + bw_sm (fun b => if c < b then S c b else 0) c + (bw_sm (fun a => if a < c then S a c else 0) c + (if c < c then S c c else 0))
    rw [ih, e2, e3, if_neg (Nat.lt_irrefl c)]
    omega
