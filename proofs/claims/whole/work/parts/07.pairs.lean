/-! the pairs of leads, counted by both sides; the order of a lead -/
section
variable {s c : Nat} {fb : Int32} {m cl t R B F : Nat → Int32}
theorem xr_fpI {post : Int32 → SX → Prop} {J : Int32 → Int32 → Prop} {b acc : Nat} (hs : s ≤ 12) (hc : c ≤ 20) (hb : b < c) (hR : ∀ q, q ≤ c * s → R q = F q) (hJ : J (nI (acc + bw_sm (fun a => bw_S s F a b) b)) (nI (b + 1))) : ∀ k p, p + k = b → wX_falsePairs_18 post J (nI b) fb (nI s) (nI c) m cl t R B (k + 1) (nI (acc + bw_sm (fun a => bw_S s F a b) p)) (nI p) := by
  intro k
  have hcs : c * s ≤ 20 * 12 := Nat.mul_le_mul hc hs
  have hbs : (b + 1) * s ≤ c * s := Nat.mul_le_mul (by omega) (Nat.le_refl _)
  rw [Nat.add_mul, Nat.one_mul] at hbs
  induction k with
  | zero =>
    intro p h
    obtain rfl : p = b := by omega
    exact br_t (nI_le (by omega) (by omega)) (nm_r (nI_1 _) hJ)
  | succ k ih =>
    intro p h
    have hps : (p + 1) * s ≤ c * s := Nat.mul_le_mul (by omega) (Nat.le_refl _)
    rw [Nat.add_mul, Nat.one_mul] at hps
    have hi := ih (p + 1) (by omega)
    rw [bw_sm] at hi
    refine br_f (nI_ge (by omega) (by omega)) (xr_share hs (by omega) (by omega) (fun h1 => br_f bw_10 (nm_r (nI_1 _) (nm_r (nI_1 _) ?_))) (fun h0 => br_t rfl (nm_r (nI_1 _) ?_)))
    · rw [bw_S1 ((bw_shC hR hps hbs).mp h1)] at hi; exact hi
    · rw [bw_S0 (fun z => h0 ((bw_shC hR hps hbs).mpr z))] at hi; exact hi
theorem xr_fpL {post : Int32 → SX → Prop} (hs : s ≤ 12) (hc : c ≤ 20) (hR : ∀ q, q ≤ c * s → R q = F q) (hp : post (nI (bw_sm (fun b => bw_sm (fun a => bw_S s F a b) b) c)) (fb, nI s, nI c, m, cl, t, R, B)) : ∀ k p, p + k = c → wX_falsePairs_8 post fb (nI s) (nI c) m cl t R B (k + 1) (nI (bw_sm (fun b => bw_sm (fun a => bw_S s F a b) b) p)) (nI p) := by
  intro k
  induction k with
  | zero =>
    intro p h
    obtain rfl : p = c := by omega
    exact br_t (nI_le (by omega) (by omega)) hp
  | succ k ih =>
    intro p h
    exact br_f (nI_ge (by omega) (by omega)) ⟨p + 1, xr_fpI hs hc (by omega) hR (ih (p + 1) (by omega)) p 0 (by omega)⟩
theorem yr_fpI {post : Int32 → SY → Prop} {J : Int32 → Int32 → Prop} {fl : Int32} {a acc : Nat} (hs : s ≤ 12) (hc : c ≤ 20) (ha : a < c) (hR : ∀ q, q ≤ c * s → R q = F q) (hJ : J (nI (acc + bw_sm (fun b => if a < b then bw_S s F a b else 0) c)) (nI (a + 1))) : ∀ k p, p + k = c → a < p → wY_falsePairs_20 post J (nI a) fb (nI s) (nI c) fl m cl t B R (k + 1) (nI (acc + bw_sm (fun b => if a < b then bw_S s F a b else 0) p)) (nI p) := by
  intro k
  have hcs : c * s ≤ 20 * 12 := Nat.mul_le_mul hc hs
  have has : (a + 1) * s ≤ c * s := Nat.mul_le_mul (by omega) (Nat.le_refl _)
  rw [Nat.add_mul, Nat.one_mul] at has
  induction k with
  | zero =>
    intro p h _
    obtain rfl : p = c := by omega
    exact br_t (nI_le (by omega) (by omega)) (nm_r (nI_1 _) hJ)
  | succ k ih =>
    intro p h hap
    have hps : (p + 1) * s ≤ c * s := Nat.mul_le_mul (by omega) (Nat.le_refl _)
    rw [Nat.add_mul, Nat.one_mul] at hps
    have hi := ih (p + 1) (by omega) (by omega)
    rw [bw_sm, if_pos hap] at hi
    refine br_f (nI_ge (by omega) (by omega)) (yr_share hs (by omega) (by omega) (fun h1 => br_f bw_10 (nm_r (nI_1 _) (nm_r (nI_1 _) ?_))) (fun h0 => br_t rfl (nm_r (nI_1 _) ?_)))
    · rw [bw_S1 ((bw_shC hR has hps).mp h1)] at hi; exact hi
    · rw [bw_S0 (fun z => h0 ((bw_shC hR has hps).mpr z))] at hi; exact hi
theorem yr_fpL {post : Int32 → SY → Prop} {fl : Int32} (hs : s ≤ 12) (hc : c ≤ 20) (hR : ∀ q, q ≤ c * s → R q = F q) (hp : post (nI (bw_sm (fun a => bw_sm (fun b => if a < b then bw_S s F a b else 0) c) c)) (fb, nI s, nI c, fl, m, cl, t, B, R)) : ∀ k p, p + k = c → wY_falsePairs_8 post fb (nI s) (nI c) fl m cl t B R (k + 1) (nI (bw_sm (fun a => bw_sm (fun b => if a < b then bw_S s F a b else 0) c) p)) (nI p) := by
  intro k
  induction k with
  | zero =>
    intro p h
    obtain rfl : p = c := by omega
    exact br_t (nI_le (by omega) (by omega)) hp
  | succ k ih =>
    intro p h
    refine br_f (nI_ge (by omega) (by omega)) (nm_r (nI_1 _) ?_)
    have hi := yr_fpI (post := post) (fb := fb) (m := m) (cl := cl) (t := t) (B := B) (fl := fl) (a := p) (acc := bw_sm (fun a => bw_sm (fun b => if a < b then bw_S s F a b else 0) c) p) hs hc (by omega) hR (ih (p + 1) (by omega)) k (p + 1) (by omega) (by omega)
    rw [bw_sm0 (f := fun b => if p < b then bw_S s F p b else 0) (p + 1) (fun i hi => if_neg (by omega))] at hi
    exact ⟨k + 1, hi⟩
end
/-! every map of at most six places onto themselves is back after sixty turns -/
def bw_it (f : Nat → Nat) : Nat → Nat → Nat
  | 0, p => p
  | n + 1, p => f (bw_it f n p)
theorem bw_itA (f : Nat → Nat) (a : Nat) : ∀ b p, bw_it f (a + b) p = bw_it f b (bw_it f a p) := by
  intro b
  induction b with
  | zero => intro p; rfl
  | succ b ih => intro p; show f (bw_it f (a + b) p) = f (bw_it f b (bw_it f a p)); rw [ih]
theorem bw_itM {f : Nat → Nat} {d p : Nat} (h : bw_it f d p = p) : ∀ k, bw_it f (d * k) p = p := by
  intro k
  induction k with
  | zero => rfl
  | succ k ih => rw [Nat.mul_succ, bw_itA, ih, h]
theorem bw_itL {f : Nat → Nat} {N : Nat} (h : ∀ p, p < N → f p < N) {p : Nat} (hp : p < N) : ∀ n, bw_it f n p < N := by
  intro n
  induction n with
  | zero => exact hp
  | succ n ih => exact h _ ih
theorem bw_itB {f : Nat → Nat} {N : Nat} (h : ∀ p, p < N → f p < N) (hi : ∀ p q, p < N → q < N → f p = f q → p = q) {p : Nat} (hp : p < N) : ∀ a b, bw_it f a p = bw_it f (a + b) p → bw_it f b p = p := by
  intro a
  induction a with
  | zero => intro b e; rw [Nat.zero_add] at e; exact e.symm
  | succ a ih =>
    intro b e
    refine ih b (hi _ _ (bw_itL h hp a) (bw_itL h hp (a + b)) ?_)
    rw [show a + 1 + b = a + b + 1 from by omega] at e
    exact e
/-- n + 1 numbers below n: two are the same -/
theorem bw_pig : ∀ (n : Nat) (x : Nat → Nat), (∀ i, i ≤ n → x i < n) → ∃ i j, i < j ∧ j ≤ n ∧ x i = x j := by
  intro n
  induction n with
  | zero => intro x h; exact absurd (h 0 (Nat.le_refl _)) (by omega)
  | succ n ih =>
    intro x h
    by_cases hz : ∃ i, i ≤ n ∧ x i = x (n + 1)
    · obtain ⟨i, hi, e⟩ := hz
      exact ⟨i, n + 1, by omega, by omega, e⟩
    · have hne : ∀ i, i ≤ n → x i ≠ x (n + 1) := fun i hi e => hz ⟨i, hi, e⟩
      have hl := h (n + 1) (by omega)
      obtain ⟨i, j, h1, h2, e⟩ := ih (fun i => if x i = n then x (n + 1) else x i) (fun i hi => by
        have a := h i (by omega)
        have b := hne i hi
        show (if x i = n then x (n + 1) else x i) < n
        by_cases z : x i = n
        · rw [if_pos z]; omega
        · rw [if_neg z]; omega)
      have hi1 := hne i (by omega)
      have hj1 := hne j h2
      refine ⟨i, j, h1, by omega, ?_⟩
      have e' : (if x i = n then x (n + 1) else x i) = (if x j = n then x (n + 1) else x j) := e
      by_cases z1 : x i = n
      · by_cases z2 : x j = n
        · rw [z1, z2]
        · rw [if_pos z1, if_neg z2] at e'; exact absurd e'.symm hj1
      · by_cases z2 : x j = n
        · rw [if_neg z1, if_pos z2] at e'; exact absurd e' hi1
        · rw [if_neg z1, if_neg z2] at e'; exact e'
theorem bw_it60 {f : Nat → Nat} {N : Nat} (hN : N ≤ 6) (h : ∀ p, p < N → f p < N) (hi : ∀ p q, p < N → q < N → f p = f q → p = q) {p : Nat} (hp : p < N) : bw_it f 60 p = p := by
  obtain ⟨a, b, h1, h2, e⟩ := bw_pig N (fun n => bw_it f n p) (fun i _ => bw_itL h hp i)
  have e2 : bw_it f (b - a) p = p := bw_itB h hi hp a (b - a) (by rw [show a + (b - a) = b from by omega]; exact e)
  rcases (by omega : b - a = 1 ∨ b - a = 2 ∨ b - a = 3 ∨ b - a = 4 ∨ b - a = 5 ∨ b - a = 6) with z | z | z | z | z | z
  · rw [z] at e2; exact bw_itM e2 60
  · rw [z] at e2; exact bw_itM e2 30
  · rw [z] at e2; exact bw_itM e2 20
  · rw [z] at e2; exact bw_itM e2 15
  · rw [z] at e2; exact bw_itM e2 12
  · rw [z] at e2; exact bw_itM e2 10
section
variable {N s x : Nat} {m cl : Nat → Int32}
/-- leads with one call: each does the same to the places -/
theorem bw_gsL (i : Nat) : ∀ j, j ≤ s → ∀ q, bw_gs N s m cl (fun _ => x) (i * s + j) q = bw_gs N s m cl (fun _ => x) (i * s) (bw_gs N s m cl (fun _ => x) j q) := by
  intro j
  induction j with
  | zero => intro _ q; rfl
  | succ j ih =>
    intro h q
    have e := bw_gsS (N := N) (m := m) (cl := cl) (tc := fun _ => x) (i := 0) (show j < s by omega)
    rw [Nat.zero_mul, Nat.zero_add, Nat.zero_add] at e
    rw [bw_gsS (by omega), e]
    exact ih (by omega) _
theorem bw_gsI : ∀ i q, bw_gs N s m cl (fun _ => x) (i * s) q = bw_it (bw_gs N s m cl (fun _ => x) s) i q := by
  intro i
  induction i with
  | zero => intro q; rw [Nat.zero_mul]; rfl
  | succ i ih =>
    intro q
    rw [Nat.add_mul, Nat.one_mul, bw_gsL i s (Nat.le_refl _), ih, Nat.add_comm i 1, bw_itA]
    rfl
theorem bw_back (H : bw_St N s m cl) (hx : x < 3) : bw_cd (bw_gs N s m cl (fun _ => x) (60 * s)) N = bw_cd (fun q => q) N := by
  have hP := bw_gsP (tc := fun _ => x) H (fun _ => hx) s
  refine bw_cdC N (fun q hq => ?_)
  rw [bw_gsI]
  exact bw_it60 H.2.1 (bw_PmL hP) (fun p q h1 h2 e => bw_PmInj hP h1 h2 e) hq
/-- the first time that rounds come back -/
theorem bw_first (H : bw_St N s m cl) (hx : x < 3) : ∃ K, 1 ≤ K ∧ K ≤ 60 ∧ bw_cd (bw_gs N s m cl (fun _ => x) (K * s)) N = bw_cd (fun q => q) N ∧ ∀ j, 1 ≤ j → j < K → bw_cd (bw_gs N s m cl (fun _ => x) (j * s)) N ≠ bw_cd (fun q => q) N := by
  have key : ∀ n, 1 ≤ n → bw_cd (bw_gs N s m cl (fun _ => x) (n * s)) N = bw_cd (fun q => q) N → ∃ K, 1 ≤ K ∧ K ≤ n ∧ bw_cd (bw_gs N s m cl (fun _ => x) (K * s)) N = bw_cd (fun q => q) N ∧ ∀ j, 1 ≤ j → j < K → bw_cd (bw_gs N s m cl (fun _ => x) (j * s)) N ≠ bw_cd (fun q => q) N := by
    intro n
    induction n using Nat.strongRecOn with
    | ind n ih =>
      intro h1 e
      by_cases hz : ∃ j, 1 ≤ j ∧ j < n ∧ bw_cd (bw_gs N s m cl (fun _ => x) (j * s)) N = bw_cd (fun q => q) N
      · obtain ⟨j, a, b, e2⟩ := hz
        obtain ⟨K, q1, q2, q3, q4⟩ := ih j b a e2
        exact ⟨K, q1, by omega, q3, q4⟩
      · exact ⟨n, h1, Nat.le_refl _, e, fun j a b z => hz ⟨j, a, b, z⟩⟩
  exact key 60 (by decide) (bw_back H hx)
end
