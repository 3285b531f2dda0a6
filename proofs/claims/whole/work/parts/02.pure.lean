/-! the pure picture: bits, changes, exchanges, rows as maps of places, codes -/
def bw_b (j p : Nat) : Bool := j / 2 ^ p % 2 == 1
theorem bw_bit {j p : Nat} (hj : j < 2 ^ 31) (hp : p < 32) : (nI j >>> (nI p &&& 31)) &&& 1 = nI (j / 2 ^ p % 2) := by
  rw [pk_shrN hj _ p (s_l p hp)]
  have h := Nat.div_le_self j (2 ^ p)
  exact pk_andN (Nat.lt_of_le_of_lt h (by omega)) (m := 1) 1 (by decide)
theorem bw_bt {j p : Nat} (hj : j < 2 ^ 31) (hp : p < 32) (h : bw_b j p = true) : (nI j >>> (nI p &&& 31)) &&& 1 = 1 := by
  rw [bw_bit hj hp, show j / 2 ^ p % 2 = 1 from by simpa [bw_b] using h]
  rfl
theorem bw_bf {j p : Nat} (hj : j < 2 ^ 31) (hp : p < 32) (h : bw_b j p = false) : (nI j >>> (nI p &&& 31)) &&& 1 = 0 := by
  rw [bw_bit hj hp, show j / 2 ^ p % 2 = 0 from by
    have h1 : ¬ j / 2 ^ p % 2 = 1 := by simpa [bw_b] using h
    omega]
  rfl
theorem bw_01 : ¬ (0 : Int32) = 1 := by decide
theorem bw_10 : ¬ (1 : Int32) = 0 := by decide
/-- is the set j a change of N places, looked at from place p on -/
def bw_ck (N j : Nat) : Nat → Nat → Bool
  | 0, _ => true
  | k + 1, p => if p < N then (if bw_b j p then bw_ck N j k (p + 1) else if p + 1 < N then (if bw_b j (p + 1) then false else bw_ck N j k (p + 2)) else false) else true
def bw_sw {α : Type} (b : Nat → α) (p : Nat) : Nat → α := fun q => if q = p + 1 then b p else if q = p then b (p + 1) else b q
def bw_ex {α : Type} (N j : Nat) : Nat → Nat → (Nat → α) → (Nat → α)
  | 0, _, b => b
  | k + 1, p, b => if p + 1 < N then (if bw_b j p then bw_ex N j k (p + 1) b else bw_ex N j k (p + 2) (bw_sw b p)) else b
theorem bw_exE {α : Type} {N j k p : Nat} {b : Nat → α} (h : N ≤ p + 1) : bw_ex N j k p b = b := by
  cases k with
  | zero => rfl
  | succ k => rw [bw_ex, if_neg (by omega)]
theorem bw_exT {α : Type} {N j k p : Nat} {b : Nat → α} (h : p + 1 < N) (hb : bw_b j p = true) : bw_ex N j (k + 1) p b = bw_ex N j k (p + 1) b := by
  rw [bw_ex, if_pos h, if_pos hb]
theorem bw_exF {α : Type} {N j k p : Nat} {b : Nat → α} (h : p + 1 < N) (hb : bw_b j p = false) : bw_ex N j (k + 1) p b = bw_ex N j k (p + 2) (bw_sw b p) := by
  rw [bw_ex, if_pos h, if_neg (by rw [hb]; decide)]
theorem bw_swN {α β : Type} (b : α → β) (f : Nat → α) (p : Nat) : bw_sw (fun q => b (f q)) p = fun q => b (bw_sw f p q) := by
  funext q
  unfold bw_sw
  by_cases h1 : q = p + 1
  · rw [if_pos h1, if_pos h1]
  · rw [if_neg h1, if_neg h1]
    by_cases h2 : q = p
    · rw [if_pos h2, if_pos h2]
    · rw [if_neg h2, if_neg h2]
theorem bw_nat {α β : Type} (N j : Nat) (b : α → β) : ∀ (k p : Nat) (f : Nat → α), bw_ex N j k p (fun q => b (f q)) = fun q => b (bw_ex N j k p f q) := by
  intro k
  induction k with
  | zero => intro p f; rfl
  | succ k ih =>
    intro p f
    by_cases h : p + 1 < N
    · cases hb : bw_b j p with
      | true => rw [bw_exT h hb, bw_exT h hb, ih]
      | false => rw [bw_exF h hb, bw_exF h hb, bw_swN, ih]
    · rw [bw_exE (by omega), bw_exE (by omega)]
/-- where the bell of a place comes from, by the change x -/
def bw_sg (N : Nat) (x : Int32) : Nat → Nat := bw_ex N x.toNatClampNeg 7 0 (fun q => q)
def bw_Ch (N : Nat) (x : Int32) : Prop := ∃ j : Nat, j < 2 ^ N ∧ x = nI j ∧ bw_ck N j 7 0 = true
def bw_Pm (N : Nat) (g : Nat → Nat) : Prop := ∃ h : Nat → Nat, ∀ p, p < N → g p < N ∧ h p < N ∧ g (h p) = p ∧ h (g p) = p
theorem bw_tab : ∀ N, N < 7 → ∀ j, j < 64 → bw_ck N j 7 0 = true → ∀ p, p < N → bw_ex N j 7 0 (fun q : Nat => q) p < N ∧ bw_ex N j 7 0 (fun q : Nat => q) (bw_ex N j 7 0 (fun q : Nat => q) p) = p := by decide +kernel
theorem bw_p6 {N j : Nat} (h6 : N ≤ 6) (hj : j < 2 ^ N) : j < 64 :=
  Nat.lt_of_lt_of_le hj (Nat.pow_le_pow_right (n := 2) (j := 6) (by decide) h6)
theorem bw_sgP {N : Nat} {x : Int32} (h6 : N ≤ 6) (h : bw_Ch N x) : ∀ p, p < N → bw_sg N x p < N ∧ bw_sg N x (bw_sg N x p) = p := by
  obtain ⟨j, hj, rfl, hc⟩ := h
  have h64 := bw_p6 h6 hj
  unfold bw_sg
  rw [nI_clamp (by omega)]
  exact bw_tab N (by omega) j h64 hc
theorem bw_Pm0 (N : Nat) : bw_Pm N (fun q => q) := ⟨fun q => q, fun _ h => ⟨h, h, rfl, rfl⟩⟩
theorem bw_PmS {N : Nat} {x : Int32} {g : Nat → Nat} (h6 : N ≤ 6) (h : bw_Ch N x) (hg : bw_Pm N g) : bw_Pm N (fun q => g (bw_sg N x q)) := by
  obtain ⟨f, hf⟩ := hg
  have hs := bw_sgP h6 h
  refine ⟨fun q => bw_sg N x (f q), fun p hp => ⟨(hf _ (hs p hp).1).1, (hs _ (hf p hp).2.1).1, ?_, ?_⟩⟩
  · show g (bw_sg N x (bw_sg N x (f p))) = p
    rw [(hs _ (hf p hp).2.1).2, (hf p hp).2.2.1]
  · show bw_sg N x (f (g (bw_sg N x p))) = p
    rw [(hf _ (hs p hp).1).2.2.2, (hs p hp).2]
theorem bw_PmInj {N : Nat} {g : Nat → Nat} (hg : bw_Pm N g) {p q : Nat} (hp : p < N) (hq : q < N) (h : g p = g q) : p = q := by
  obtain ⟨f, hf⟩ := hg
  rw [← (hf p hp).2.2.2, ← (hf q hq).2.2.2, h]
/-- the code of the first places -/
def bw_cd (g : Nat → Nat) : Nat → Nat
  | 0 => 0
  | p + 1 => 10 * bw_cd g p + (g p + 1)
theorem bw_cdC {g h : Nat → Nat} : ∀ p, (∀ q, q < p → g q = h q) → bw_cd g p = bw_cd h p := by
  intro p
  induction p with
  | zero => intro _; rfl
  | succ p ih =>
    intro e
    rw [bw_cd, bw_cd, ih (fun q hq => e q (by omega)), e p (by omega)]
theorem bw_cdB {g : Nat → Nat} {N : Nat} (hN : N ≤ 6) (hg : ∀ q, q < N → g q < N) : ∀ p, p ≤ N → bw_cd g p < 10 ^ p := by
  intro p
  induction p with
  | zero => intro _; exact Nat.one_pos
  | succ p ih =>
    intro h
    have h1 := ih (by omega)
    have h2 := hg p (by omega)
    rw [bw_cd, Nat.pow_succ]
    omega
theorem bw_cdL {g : Nat → Nat} {N : Nat} (hN : N ≤ 6) (hg : ∀ q, q < N → g q < N) {p : Nat} (hp : p ≤ N) : bw_cd g p < 1000000 :=
  Nat.lt_of_lt_of_le (bw_cdB hN hg p hp) (Nat.pow_le_pow_right (n := 10) (j := 6) (by decide) (by omega))
theorem bw_cdH {g : Nat → Nat} {N : Nat} (h1 : 1 ≤ N) (hN : N ≤ 6) (hg : ∀ q, q < N → g q < N) : bw_cd g N / 10 ^ (N - 1) = g 0 + 1 := by
  have h : ∀ p, p < N → ∃ r, r < 10 ^ p ∧ bw_cd g (p + 1) = (g 0 + 1) * 10 ^ p + r := by
    intro p
    induction p with
    | zero => intro _; exact ⟨0, Nat.one_pos, by simp [bw_cd]⟩
    | succ p ih =>
      intro hp
      obtain ⟨r, hr, e⟩ := ih (by omega)
      have h2 := hg (p + 1) hp
      refine ⟨10 * r + (g (p + 1) + 1), by rw [Nat.pow_succ]; omega, ?_⟩
      rw [bw_cd, e, Nat.pow_succ, Nat.mul_add, ← Nat.mul_assoc, Nat.mul_comm 10 (g 0 + 1), Nat.mul_assoc (g 0 + 1), Nat.mul_comm 10 (10 ^ p)]
      omega
  obtain ⟨r, hr, e⟩ := h (N - 1) (by omega)
  rw [show N - 1 + 1 = N from by omega] at e
  rw [e, Nat.mul_comm, Nat.mul_add_div (Nat.pos_of_ne_zero (by intro z; rw [z] at hr; omega)), Nat.div_eq_of_lt hr]
/-- the array b holds the row g -/
def bw_Ro (N : Nat) (b : Nat → Int32) (g : Nat → Nat) : Prop := ∀ p, p < N → b p = nI (g p + 1)
theorem bw_RoX {N j : Nat} {b : Nat → Int32} {g : Nat → Nat} (h6 : N ≤ 6) (hj : j < 2 ^ N) (hc : bw_ck N j 7 0 = true) (h : bw_Ro N b g) : bw_Ro N (bw_ex N j 7 0 b) (fun q => g (bw_sg N (nI j) q)) := by
  intro p hp
  have e : bw_ex N j 7 0 b = fun q => b (bw_ex N j 7 0 (fun q : Nat => q) q) := bw_nat N j b 7 0 (fun q => q)
  have h64 := bw_p6 h6 hj
  rw [e]
  show b (bw_ex N j 7 0 (fun q : Nat => q) p) = nI (g (bw_sg N (nI j) p) + 1)
  rw [h _ (bw_tab N (by omega) j h64 hc p hp).1]
  unfold bw_sg
  rw [nI_clamp (by omega)]
/-- the change at place i of a lead with call x -/
def bw_st (s : Nat) (m cl : Nat → Int32) (x i : Nat) : Int32 := if x ≠ 0 ∧ i + 1 = s then cl x else m i
def bw_St (N s : Nat) (m cl : Nat → Int32) : Prop := 3 ≤ N ∧ N ≤ 6 ∧ 1 ≤ s ∧ s ≤ 12 ∧ (∀ i, i < s → bw_Ch N (m i)) ∧ bw_Ch N (cl 1) ∧ bw_Ch N (cl 2)
theorem bw_stC {N s : Nat} {m cl : Nat → Int32} (H : bw_St N s m cl) {x i : Nat} (hx : x < 3) (hi : i < s) : bw_Ch N (bw_st s m cl x i) := by
  obtain ⟨_, _, _, _, hm, h1, h2⟩ := H
  unfold bw_st
  by_cases h : x ≠ 0 ∧ i + 1 = s
  · rw [if_pos h]
    rcases (by omega : x = 1 ∨ x = 2) with rfl | rfl
    · exact h1
    · exact h2
  · rw [if_neg h]; exact hm i hi
/-- the row k of leads with the calls tc, one behind the other -/
def bw_gs (N s : Nat) (m cl : Nat → Int32) (tc : Nat → Nat) : Nat → (Nat → Nat)
  | 0 => fun q => q
  | k + 1 => fun q => bw_gs N s m cl tc k (bw_sg N (bw_st s m cl (tc (k / s)) (k % s)) q)
theorem bw_gsS {N s : Nat} {m cl : Nat → Int32} {tc : Nat → Nat} {i j : Nat} (hj : j < s) : bw_gs N s m cl tc (i * s + (j + 1)) = fun q => bw_gs N s m cl tc (i * s + j) (bw_sg N (bw_st s m cl (tc i) j) q) := by
  have e1 : (i * s + j) / s = i := by
    rw [Nat.add_comm, Nat.add_mul_div_right _ _ (by omega), Nat.div_eq_of_lt hj, Nat.zero_add]
  have e2 : (i * s + j) % s = j := by
    rw [Nat.add_comm, Nat.add_mul_mod_self_right, Nat.mod_eq_of_lt hj]
  rw [← Nat.add_assoc, bw_gs, e1, e2]
theorem bw_gsP {N s : Nat} {m cl : Nat → Int32} {tc : Nat → Nat} (H : bw_St N s m cl) (h3 : ∀ i, tc i < 3) : ∀ k, bw_Pm N (bw_gs N s m cl tc k) := by
  intro k
  induction k with
  | zero => exact bw_Pm0 N
  | succ k ih => exact bw_PmS H.2.1 (bw_stC H (h3 _) (Nat.mod_lt _ (by have := H.2.2.1; omega))) ih
theorem bw_PmL {N : Nat} {g : Nat → Nat} (h : bw_Pm N g) : ∀ q, q < N → g q < N := by
  obtain ⟨f, hf⟩ := h
  exact fun q hq => (hf q hq).1
/-- the code of row k -/
def bw_F (N s : Nat) (m cl : Nat → Int32) (tc : Nat → Nat) (k : Nat) : Int32 := nI (bw_cd (bw_gs N s m cl tc k) N)
