section
theorem pk_us {f : Nat → Int32} {k : Nat} {x : Int32} : upd f k x k = x := if_pos rfl
theorem pk_un {f : Nat → Int32} {k j : Nat} {x : Int32} (h : j ≠ k) : upd f k x j = f j := if_neg h
theorem pk_sub {a b : Nat} (h : b ≤ a) : nI a - nI b = nI (a - b) := by
  obtain ⟨c, rfl⟩ : ∃ c, a = c + b := ⟨a - b, by omega⟩
  rw [← nI_add, Int32.add_sub_cancel, Nat.add_sub_cancel]
theorem pk_m1 (n : Nat) : nI (n + 1) + (-1) = nI n := by
  rw [← nI_1, Int32.add_assoc, show (1 : Int32) + (-1) = 0 from rfl, Int32.add_zero]
theorem pk_mul (a b : Nat) : nI a * nI b = nI (a * b) := (Int32.ofNat_mul a b).symm
theorem pk_div {a d : Nat} (ha : a < 2 ^ 31) (h0 : 0 < d) (hd : d < 2 ^ 31) : nI a / nI d = nI (a / d) := by
  apply Int32.toInt_inj.mp
  rw [lg_idiv_nonneg (by rw [nI_toInt ha]; omega) (by rw [nI_toInt hd]; omega), nI_toInt ha, nI_toInt hd, nI_toInt (Nat.lt_of_le_of_lt (Nat.div_le_self a d) ha)]
  first | rfl | exact (Int.natCast_ediv _ _).symm
theorem pk_rem {a d : Nat} (ha : a < 2 ^ 31) (h0 : 0 < d) (hd : d < 2 ^ 31) : nI a - nI a / nI d * nI d = nI (a % d) := by
  rw [pk_div ha h0 hd, pk_mul, pk_sub (Nat.div_mul_le_self a d)]
  exact congrArg nI (by have := Nat.div_add_mod' a d; omega)
theorem pk_le {x y : Int32} {A B : Prop} (a b : Nat) (f : a ≤ b → A) (g : b < a → B) (hx : x = nI a := by rfl) (hy : y = nI b := by rfl) (ha : a < 2 ^ 31 := by omega) (hb : b < 2 ^ 31 := by omega) : (x ≤ y → A) ∧ (¬ x ≤ y → B) := by
  subst hx hy
  rw [nI_leI ha hb]
  exact ⟨f, fun z => g (by omega)⟩
theorem pk_lt {x y : Int32} {A B : Prop} (a b : Nat) (f : a < b → A) (g : b ≤ a → B) (hx : x = nI a := by rfl) (hy : y = nI b := by rfl) (ha : a < 2 ^ 31 := by omega) (hb : b < 2 ^ 31 := by omega) : (x < y → A) ∧ (¬ x < y → B) := by
  subst hx hy
  rw [nI_ltI ha hb]
  exact ⟨f, fun z => g (by omega)⟩
theorem pk_eq {x y : Int32} {A B : Prop} (a b : Nat) (f : a = b → A) (g : a ≠ b → B) (hx : x = nI a := by rfl) (hy : y = nI b := by rfl) (ha : a < 2 ^ 31 := by omega) (hb : b < 2 ^ 31 := by omega) : (x = y → A) ∧ (¬ x = y → B) := by
  subst hx hy
  rw [nI_eq ha hb]
  exact ⟨f, g⟩
theorem pk_in {x : Int32} (n N : Nat) (h : n < N) (hx : x = nI n := by rfl) (hN : N < 2 ^ 31 := by omega) : vp_in x N := by
  subst hx
  exact vp_in_nI h hN
theorem pk_cl {x : Int32} (n : Nat) (hx : x = nI n := by rfl) (h : n < 2 ^ 31 := by omega) : x.toNatClampNeg = n := by
  subst hx
  exact nI_clamp h
theorem pk_tn {n : Nat} (h : n < 2 ^ 32) : (nI n).toBitVec.toNat = n := Nat.mod_eq_of_lt h
theorem pk_and (x : Int32) {m : Int32} (k : Nat) (hm : m.toBitVec.toNat = 2 ^ k - 1) : x &&& m = nI (x.toBitVec.toNat % 2 ^ k) := by
  apply Int32.toBitVec_inj.mp
  apply BitVec.eq_of_toNat_eq
  rw [Int32.toBitVec_and, BitVec.toNat_and, hm, Nat.and_two_pow_sub_one_eq_mod]
  show _ = (BitVec.ofNat 32 _).toNat
  rw [BitVec.toNat_ofNat]
  exact (Nat.mod_eq_of_lt (Nat.lt_of_le_of_lt (Nat.mod_le _ _) x.toBitVec.isLt)).symm
theorem pk_andN {n : Nat} (h : n < 2 ^ 32) {m : Int32} (k : Nat) (hm : m.toBitVec.toNat = 2 ^ k - 1) : nI n &&& m = nI (n % 2 ^ k) := by
  rw [pk_and _ k hm, pk_tn h]
theorem pk_shl (a s : Int32) (k : Nat) (hs : (s.toBitVec.smod 32).toNat = k) : (a <<< s).toBitVec.toNat = a.toBitVec.toNat * 2 ^ k % 2 ^ 32 := by
  show (a.toBitVec <<< (s.toBitVec.smod 32).toNat).toNat = _
  rw [hs, BitVec.toNat_shiftLeft, Nat.shiftLeft_eq]
theorem pk_shlN {n : Nat} (s : Int32) (k : Nat) (hs : (s.toBitVec.smod 32).toNat = k) (h : n * 2 ^ k < 2 ^ 32) : nI n <<< s = nI (n * 2 ^ k) := by
  apply Int32.toBitVec_inj.mp
  apply BitVec.eq_of_toNat_eq
  have hn : n < 2 ^ 32 := Nat.lt_of_le_of_lt (Nat.le_mul_of_pos_right n (Nat.two_pow_pos k)) h
  rw [pk_shl _ _ k hs, pk_tn hn, pk_tn h, Nat.mod_eq_of_lt h]
theorem pk_shr (a s : Int32) (k : Nat) (hs : (s.toBitVec.smod 32).toNat = k) : (a >>> s).toInt = a.toInt >>> k := by
  show (a.toBitVec.sshiftRight (s.toBitVec.smod 32).toNat).toInt = _
  rw [hs, BitVec.toInt_sshiftRight]
  rfl
theorem pk_shrN {n : Nat} (h : n < 2 ^ 31) (s : Int32) (k : Nat) (hs : (s.toBitVec.smod 32).toNat = k) : nI n >>> s = nI (n / 2 ^ k) := by
  apply Int32.toInt_inj.mp
  have h2 : n / 2 ^ k ≤ n := Nat.div_le_self _ _
  rw [pk_shr _ _ k hs, nI_toInt h, nI_toInt (by omega), Int.shiftRight_eq_div_pow]
  rfl
theorem s_l : ∀ n, n < 32 → ((nI n &&& 31).toBitVec.smod 32).toNat = n := by decide +kernel
theorem pk_ix (x : Int32) {n : Nat} (hn : n < 2 ^ 31) : x < 0 ∨ nI n ≤ x ∨ ∃ j : Nat, j < n ∧ x = nI j := by
  by_cases h : x < 0
  · exact Or.inl h
  · obtain ⟨j, hj, rfl⟩ := nI_of h
    by_cases h2 : j < n
    · exact Or.inr (Or.inr ⟨j, h2, rfl⟩)
    · exact Or.inr (Or.inl (nI_le (by omega) hj))
end
section
/-! the pure picture: bits, changes, exchanges, rows as maps of places, codes -/
def bw_b (j p : Nat) : Bool := j / 2 ^ p % 2 == 1
theorem bw_bit {j p : Nat} (hj : j < 2 ^ 31) (hp : p < 32) : (nI j >>> (nI p &&& 31)) &&& 1 = nI (j / 2 ^ p % 2) := by
  rw [pk_shrN hj _ p (s_l p hp)]
  have h := Nat.div_le_self j (2 ^ p)
  exact pk_andN (Nat.lt_of_le_of_lt h (by omega)) (m := 1) 1 (by decide)
theorem bw_bt {j p : Nat} (hj : j < 2 ^ 31) (hp : p < 32) (h : bw_b j p = true) : (nI j >>> (nI p &&& 31)) &&& 1 = 1 := by
  rw [bw_bit hj hp, show j / 2 ^ p % 2 = 1 from by simpa [bw_b] using h]
  rfl
theorem bw_bf {j p : Nat} (hj : j < 2 ^ 31) (hp : p < 32) (h : bw_b j p = false) : (nI j >>> (nI p &&& 31)) &&& 1 = 0 := by
  rw [bw_bit hj hp, show j / 2 ^ p % 2 = 0 from by
    have h1 : ¬ j / 2 ^ p % 2 = 1 := by simpa [bw_b] using h
    omega]
  rfl
theorem bw_01 : ¬ (0 : Int32) = 1 := by decide
theorem bw_10 : ¬ (1 : Int32) = 0 := by decide
/-- is the set j a change of N places, looked at from place p on -/
def bw_ck (N j : Nat) : Nat → Nat → Bool
  | 0, _ => true
  | k + 1, p => if p < N then (if bw_b j p then bw_ck N j k (p + 1) else if p + 1 < N then (if bw_b j (p + 1) then false else bw_ck N j k (p + 2)) else false) else true
def bw_sw {α : Type} (b : Nat → α) (p : Nat) : Nat → α := fun q => if q = p + 1 then b p else if q = p then b (p + 1) else b q
def bw_ex {α : Type} (N j : Nat) : Nat → Nat → (Nat → α) → (Nat → α)
  | 0, _, b => b
  | k + 1, p, b => if p + 1 < N then (if bw_b j p then bw_ex N j k (p + 1) b else bw_ex N j k (p + 2) (bw_sw b p)) else b
theorem bw_exE {α : Type} {N j k p : Nat} {b : Nat → α} (h : N ≤ p + 1) : bw_ex N j k p b = b := by
  cases k with
  | zero => rfl
  | succ k => rw [bw_ex, if_neg (by omega)]
theorem bw_exT {α : Type} {N j k p : Nat} {b : Nat → α} (h : p + 1 < N) (hb : bw_b j p = true) : bw_ex N j (k + 1) p b = bw_ex N j k (p + 1) b := by
  rw [bw_ex, if_pos h, if_pos hb]
theorem bw_exF {α : Type} {N j k p : Nat} {b : Nat → α} (h : p + 1 < N) (hb : bw_b j p = false) : bw_ex N j (k + 1) p b = bw_ex N j k (p + 2) (bw_sw b p) := by
  rw [bw_ex, if_pos h, if_neg (by rw [hb]; decide)]
theorem bw_swN {α β : Type} (b : α → β) (f : Nat → α) (p : Nat) : bw_sw (fun q => b (f q)) p = fun q => b (bw_sw f p q) := by
  funext q
  unfold bw_sw
  by_cases h1 : q = p + 1
  · rw [if_pos h1, if_pos h1]
  · rw [if_neg h1, if_neg h1]
    by_cases h2 : q = p
    · rw [if_pos h2, if_pos h2]
    · rw [if_neg h2, if_neg h2]
theorem bw_nat {α β : Type} (N j : Nat) (b : α → β) : ∀ (k p : Nat) (f : Nat → α), bw_ex N j k p (fun q => b (f q)) = fun q => b (bw_ex N j k p f q) := by
  intro k
  induction k with
  | zero => intro p f; rfl
  | succ k ih =>
    intro p f
    by_cases h : p + 1 < N
    · cases hb : bw_b j p with
      | true => rw [bw_exT h hb, bw_exT h hb, ih]
      | false => rw [bw_exF h hb, bw_exF h hb, bw_swN, ih]
    · rw [bw_exE (by omega), bw_exE (by omega)]
/-- where the bell of a place comes from, by the change x -/
def bw_sg (N : Nat) (x : Int32) : Nat → Nat := bw_ex N x.toNatClampNeg 7 0 (fun q => q)
def bw_Ch (N : Nat) (x : Int32) : Prop := ∃ j : Nat, j < 2 ^ N ∧ x = nI j ∧ bw_ck N j 7 0 = true
def bw_Pm (N : Nat) (g : Nat → Nat) : Prop := ∃ h : Nat → Nat, ∀ p, p < N → g p < N ∧ h p < N ∧ g (h p) = p ∧ h (g p) = p
theorem bw_tab : ∀ N, N < 7 → ∀ j, j < 64 → bw_ck N j 7 0 = true → ∀ p, p < N → bw_ex N j 7 0 (fun q : Nat => q) p < N ∧ bw_ex N j 7 0 (fun q : Nat => q) (bw_ex N j 7 0 (fun q : Nat => q) p) = p := by decide +kernel
theorem bw_p6 {N j : Nat} (h6 : N ≤ 6) (hj : j < 2 ^ N) : j < 64 :=
  Nat.lt_of_lt_of_le hj (Nat.pow_le_pow_right (n := 2) (j := 6) (by decide) h6)
theorem bw_sgP {N : Nat} {x : Int32} (h6 : N ≤ 6) (h : bw_Ch N x) : ∀ p, p < N → bw_sg N x p < N ∧ bw_sg N x (bw_sg N x p) = p := by
  obtain ⟨j, hj, rfl, hc⟩ := h
  have h64 := bw_p6 h6 hj
  unfold bw_sg
  rw [nI_clamp (by omega)]
  exact bw_tab N (by omega) j h64 hc
theorem bw_Pm0 (N : Nat) : bw_Pm N (fun q => q) := ⟨fun q => q, fun _ h => ⟨h, h, rfl, rfl⟩⟩
theorem bw_PmS {N : Nat} {x : Int32} {g : Nat → Nat} (h6 : N ≤ 6) (h : bw_Ch N x) (hg : bw_Pm N g) : bw_Pm N (fun q => g (bw_sg N x q)) := by
  obtain ⟨f, hf⟩ := hg
  have hs := bw_sgP h6 h
  refine ⟨fun q => bw_sg N x (f q), fun p hp => ⟨(hf _ (hs p hp).1).1, (hs _ (hf p hp).2.1).1, ?_, ?_⟩⟩
  · show g (bw_sg N x (bw_sg N x (f p))) = p
    rw [(hs _ (hf p hp).2.1).2, (hf p hp).2.2.1]
  · show bw_sg N x (f (g (bw_sg N x p))) = p
    rw [(hf _ (hs p hp).1).2.2.2, (hs p hp).2]
theorem bw_PmInj {N : Nat} {g : Nat → Nat} (hg : bw_Pm N g) {p q : Nat} (hp : p < N) (hq : q < N) (h : g p = g q) : p = q := by
  obtain ⟨f, hf⟩ := hg
  rw [← (hf p hp).2.2.2, ← (hf q hq).2.2.2, h]
/-- the code of the first places -/
def bw_cd (g : Nat → Nat) : Nat → Nat
  | 0 => 0
  | p + 1 => 10 * bw_cd g p + (g p + 1)
theorem bw_cdC {g h : Nat → Nat} : ∀ p, (∀ q, q < p → g q = h q) → bw_cd g p = bw_cd h p := by
  intro p
  induction p with
  | zero => intro _; rfl
  | succ p ih =>
    intro e
    rw [bw_cd, bw_cd, ih (fun q hq => e q (by omega)), e p (by omega)]
theorem bw_cdB {g : Nat → Nat} {N : Nat} (hN : N ≤ 6) (hg : ∀ q, q < N → g q < N) : ∀ p, p ≤ N → bw_cd g p < 10 ^ p := by
  intro p
  induction p with
  | zero => intro _; exact Nat.one_pos
  | succ p ih =>
    intro h
    have h1 := ih (by omega)
    have h2 := hg p (by omega)
    rw [bw_cd, Nat.pow_succ]
    omega
theorem bw_cdL {g : Nat → Nat} {N : Nat} (hN : N ≤ 6) (hg : ∀ q, q < N → g q < N) {p : Nat} (hp : p ≤ N) : bw_cd g p < 1000000 :=
  Nat.lt_of_lt_of_le (bw_cdB hN hg p hp) (Nat.pow_le_pow_right (n := 10) (j := 6) (by decide) (by omega))
theorem bw_cdH {g : Nat → Nat} {N : Nat} (h1 : 1 ≤ N) (hN : N ≤ 6) (hg : ∀ q, q < N → g q < N) : bw_cd g N / 10 ^ (N - 1) = g 0 + 1 := by
  have h : ∀ p, p < N → ∃ r, r < 10 ^ p ∧ bw_cd g (p + 1) = (g 0 + 1) * 10 ^ p + r := by
    intro p
    induction p with
    | zero => intro _; exact ⟨0, Nat.one_pos, by simp [bw_cd]⟩
    | succ p ih =>
      intro hp
      obtain ⟨r, hr, e⟩ := ih (by omega)
      have h2 := hg (p + 1) hp
      refine ⟨10 * r + (g (p + 1) + 1), by rw [Nat.pow_succ]; omega, ?_⟩
      rw [bw_cd, e, Nat.pow_succ, Nat.mul_add, ← Nat.mul_assoc, Nat.mul_comm 10 (g 0 + 1), Nat.mul_assoc (g 0 + 1), Nat.mul_comm 10 (10 ^ p)]
      omega
  obtain ⟨r, hr, e⟩ := h (N - 1) (by omega)
  rw [show N - 1 + 1 = N from by omega] at e
  rw [e, Nat.mul_comm, Nat.mul_add_div (Nat.pos_of_ne_zero (by intro z; rw [z] at hr; omega)), Nat.div_eq_of_lt hr]
/-- the array b holds the row g -/
def bw_Ro (N : Nat) (b : Nat → Int32) (g : Nat → Nat) : Prop := ∀ p, p < N → b p = nI (g p + 1)
theorem bw_RoX {N j : Nat} {b : Nat → Int32} {g : Nat → Nat} (h6 : N ≤ 6) (hj : j < 2 ^ N) (hc : bw_ck N j 7 0 = true) (h : bw_Ro N b g) : bw_Ro N (bw_ex N j 7 0 b) (fun q => g (bw_sg N (nI j) q)) := by
  intro p hp
  have e : bw_ex N j 7 0 b = fun q => b (bw_ex N j 7 0 (fun q : Nat => q) q) := bw_nat N j b 7 0 (fun q => q)
  have h64 := bw_p6 h6 hj
  rw [e]
  show b (bw_ex N j 7 0 (fun q : Nat => q) p) = nI (g (bw_sg N (nI j) p) + 1)
  rw [h _ (bw_tab N (by omega) j h64 hc p hp).1]
  unfold bw_sg
  rw [nI_clamp (by omega)]
/-- the change at place i of a lead with call x -/
def bw_st (s : Nat) (m cl : Nat → Int32) (x i : Nat) : Int32 := if x ≠ 0 ∧ i + 1 = s then cl x else m i
def bw_St (N s : Nat) (m cl : Nat → Int32) : Prop := 3 ≤ N ∧ N ≤ 6 ∧ 1 ≤ s ∧ s ≤ 12 ∧ (∀ i, i < s → bw_Ch N (m i)) ∧ bw_Ch N (cl 1) ∧ bw_Ch N (cl 2)
theorem bw_stC {N s : Nat} {m cl : Nat → Int32} (H : bw_St N s m cl) {x i : Nat} (hx : x < 3) (hi : i < s) : bw_Ch N (bw_st s m cl x i) := by
  obtain ⟨_, _, _, _, hm, h1, h2⟩ := H
  unfold bw_st
  by_cases h : x ≠ 0 ∧ i + 1 = s
  · rw [if_pos h]
    rcases (by omega : x = 1 ∨ x = 2) with rfl | rfl
    · exact h1
    · exact h2
  · rw [if_neg h]; exact hm i hi
/-- the row k of leads with the calls tc, one behind the other -/
def bw_gs (N s : Nat) (m cl : Nat → Int32) (tc : Nat → Nat) : Nat → (Nat → Nat)
  | 0 => fun q => q
  | k + 1 => fun q => bw_gs N s m cl tc k (bw_sg N (bw_st s m cl (tc (k / s)) (k % s)) q)
theorem bw_gsS {N s : Nat} {m cl : Nat → Int32} {tc : Nat → Nat} {i j : Nat} (hj : j < s) : bw_gs N s m cl tc (i * s + (j + 1)) = fun q => bw_gs N s m cl tc (i * s + j) (bw_sg N (bw_st s m cl (tc i) j) q) := by
  have e1 : (i * s + j) / s = i := by
    rw [Nat.add_comm, Nat.add_mul_div_right _ _ (by omega), Nat.div_eq_of_lt hj, Nat.zero_add]
  have e2 : (i * s + j) % s = j := by
    rw [Nat.add_comm, Nat.add_mul_mod_self_right, Nat.mod_eq_of_lt hj]
  rw [← Nat.add_assoc, bw_gs, e1, e2]
theorem bw_gsP {N s : Nat} {m cl : Nat → Int32} {tc : Nat → Nat} (H : bw_St N s m cl) (h3 : ∀ i, tc i < 3) : ∀ k, bw_Pm N (bw_gs N s m cl tc k) := by
  intro k
  induction k with
  | zero => exact bw_Pm0 N
  | succ k ih => exact bw_PmS H.2.1 (bw_stC H (h3 _) (Nat.mod_lt _ (by have := H.2.2.1; omega))) ih
theorem bw_PmL {N : Nat} {g : Nat → Nat} (h : bw_Pm N g) : ∀ q, q < N → g q < N := by
  obtain ⟨f, hf⟩ := h
  exact fun q hq => (hf q hq).1
/-- the code of row k -/
def bw_F (N s : Nat) (m cl : Nat → Int32) (tc : Nat → Nat) (k : Nat) : Int32 := nI (bw_cd (bw_gs N s m cl tc k) N)
end
section
/-! the component's ringing -/
section
variable {N : Nat} {fc fl : Int32} {m cl t R B : Nat → Int32} {g : Nat → Nat}
theorem xr_codeL {post : Int32 → Prop} (hN : N ≤ 6) (hB : bw_Ro N B g) (hp : post (nI (bw_cd g N))) : ∀ k p, p + k = N → wX_codeOfBells_4 post (nI N) fc fl m cl t R B (k + 1) (nI (bw_cd g p)) (nI p) := by
  intro k
  induction k with
  | zero =>
    intro p h
    obtain rfl : p = N := by omega
    exact br_t (nI_le (Nat.le_refl _) (by omega)) hp
  | succ k ih =>
    intro p h
    refine br_f (nI_ge (by omega) (by omega)) ⟨vp_in_nI (by omega) (by omega), nm_r (e' := nI (bw_cd g (p + 1))) ?_ (nm_r (nI_1 p) (ih (p + 1) (by omega)))⟩
    rw [nI_clamp (by omega), hB p (by omega), bw_cd, Nat.mul_comm 10, ← nI_add (bw_cd g p * 10), ← pk_mul]
    rfl
theorem xr_code {post : Int32 → Prop} (hN : N ≤ 6) (hB : bw_Ro N B g) (hp : post (nI (bw_cd g N))) : wpX_codeOfBells post (nI N, fc, fl, m, cl, t, R, B) :=
  ⟨N + 1, xr_codeL hN hB hp N 0 (by omega)⟩
theorem xr_startL {post : SX → Prop} (hN : N ≤ 6) (hp : ∀ B', bw_Ro N B' (fun q => q) → post (nI N, fc, fl, m, cl, t, upd R 0 (nI (bw_cd (fun q => q) N)), B')) : ∀ k p, p + k = N → ∀ B, (∀ q, q < p → B q = nI (q + 1)) → wX_startAtRounds_2 post (nI N) fc fl (k + 1) (nI p) m cl t R B := by
  intro k
  induction k with
  | zero =>
    intro p h B hB
    obtain rfl : p = N := by omega
    exact br_t (nI_le (Nat.le_refl _) (by omega)) (xr_code (g := fun q => q) hN hB (nm_e (hp B hB)))
  | succ k ih =>
    intro p h B hB
    refine br_f (nI_ge (by omega) (by omega)) ⟨vp_in_nI (by omega) (by omega), nm_r (e' := upd B p (nI (p + 1))) ?_ (nm_r (nI_1 p) (ih (p + 1) (by omega) _ ?_))⟩
    · rw [nI_clamp (by omega), nI_1]
    · intro q hq
      by_cases h2 : q = p
      · subst h2; exact pk_us
      · rw [pk_un h2]; exact hB q (by omega)
theorem xr_start {post : SX → Prop} (hN : N ≤ 6) (hp : ∀ B', bw_Ro N B' (fun q => q) → post (nI N, fc, fl, m, cl, t, upd R 0 (nI (bw_cd (fun q => q) N)), B')) : wpX_startAtRounds post (nI N, fc, fl, m, cl, t, R, B) :=
  ⟨N + 1, xr_startL hN hp N 0 (by omega) B (fun _ h => absurd h (Nat.not_lt_zero _))⟩
theorem xr_sw {b : Nat → Int32} {p : Nat} (hp : p < 100) : upd (upd b (nI p).toNatClampNeg (b (nI p + 1).toNatClampNeg)) (nI p + 1).toNatClampNeg (b (nI p).toNatClampNeg) = bw_sw b p := by
  rw [nI_1, nI_clamp (by omega), nI_clamp (by omega)]
  rfl
theorem xr_exL {post : SX → Prop} {j : Nat} (hN : N ≤ 6) (hj : j < 64) : ∀ k p b, N ≤ k + p + 1 → p ≤ 6 → post (nI N, fc, fl, m, cl, t, R, bw_ex N j k p b) → wX_exchange_2 post (nI j) (nI N) fc fl (k + 1) (nI p) m cl t R b := by
  intro k
  induction k with
  | zero =>
    intro p b h hp6 hp
    refine br_t ?_ hp
    rw [nI_1]
    exact nI_le (by omega) (by omega)
  | succ k ih =>
    intro p b h hp6 hp
    by_cases h1 : N ≤ p + 1
    · rw [bw_exE h1] at hp
      refine br_t ?_ hp
      rw [nI_1]
      exact nI_le (by omega) (by omega)
    · refine br_f ?_ ?_
      · rw [nI_1]
        exact nI_ge (by omega) (by omega)
      · cases hb : bw_b j p with
        | true =>
          rw [bw_exT (by omega) hb] at hp
          exact br_t (bw_bt (by omega) (by omega) hb) (br_f bw_10 (nm_r (nI_1 p) (ih (p + 1) b (by omega) (by omega) hp)))
        | false =>
          rw [bw_exF (by omega) hb] at hp
          have hi : vp_in (nI p) 6 := vp_in_nI (by omega) (by omega)
          have hi1 : vp_in (nI p + 1) 6 := by rw [nI_1]; exact vp_in_nI (by omega) (by omega)
          exact br_f (by rw [bw_bf (by omega) (by omega) hb]; exact bw_01) (br_t rfl ⟨hi, nm_e ⟨hi1, hi, nm_e ⟨hi1, nm_r (xr_sw (by omega)) (nm_r (nI_1 p) (nm_r (nI_1 (p + 1)) (ih (p + 2) _ (by omega) (by omega) hp)))⟩⟩⟩)
theorem xr_exch {post : SX → Prop} {x : Int32} (hN : N ≤ 6) (hx : bw_Ch N x) (hB : bw_Ro N B g) (hp : ∀ B', bw_Ro N B' (fun q => g (bw_sg N x q)) → post (nI N, fc, fl, m, cl, t, R, B')) : wpX_exchange post (nI N, fc, fl, m, cl, t, R, B) x := by
  obtain ⟨j, hj, rfl, hc⟩ := hx
  exact ⟨8, xr_exL hN (bw_p6 hN hj) 7 0 B (by omega) (by omega) (hp _ (bw_RoX hN hj hc hB))⟩
theorem xr_40 {post : SX → Prop} {J : Int32 → Int32 → Int32 → Int32 → (Nat → Int32) → (Nat → Int32) → (Nat → Int32) → (Nat → Int32) → (Nat → Int32) → Prop} {x1 x : Int32} {rb i : Nat} (hN : N ≤ 6) (hr : rb + 1 + i < 253) (hx : bw_Ch N x) (hB : bw_Ro N B g) (hp : ∀ B', bw_Ro N B' (fun q => g (bw_sg N x q)) → J (nI (i + 1)) (nI N) fc fl m cl t (upd R (rb + 1 + i) (nI (bw_cd (fun q => g (bw_sg N x q)) N))) B') : wX_ringLead_40 post J x1 (nI rb) (nI i) x (nI N) fc fl m cl t R B := by
  unfold wX_ringLead_40
  refine xr_exch hN hx hB (fun B' hB' => ?_)
  refine xr_code hN hB' ?_
  have e : nI rb + 1 + nI i = nI (rb + 1 + i) := by rw [nI_1, nI_add]
  refine ⟨?_, nm_r (e' := upd R (rb + 1 + i) (nI (bw_cd (fun q => g (bw_sg N x q)) N))) ?_ (nm_r (nI_1 i) (hp B' hB'))⟩
  · rw [e]; exact vp_in_nI hr (by omega)
  · rw [e, nI_clamp (by omega)]
theorem xr_ldL {post : SX → Prop} {s x rb : Nat} {gs : Nat → (Nat → Nat)} {R0 : Nat → Int32} (H : bw_St N s m cl) (hx : x < 3) (hr : rb + s < 253) (hg : ∀ j, j < s → gs (j + 1) = fun q => gs j (bw_sg N (bw_st s m cl x j) q)) (hp : ∀ B' R', bw_Ro N B' (gs s) → (∀ q, q ≤ rb → R' q = R0 q) → (∀ q, q < s → R' (rb + 1 + q) = nI (bw_cd (gs (q + 1)) N)) → post (nI N, nI s, fl, m, cl, t, R', B')) : ∀ k i, i + k = s → ∀ R B, bw_Ro N B (gs i) → (∀ q, q ≤ rb → R q = R0 q) → (∀ q, q < i → R (rb + 1 + q) = nI (bw_cd (gs (q + 1)) N)) → wX_ringLead_2 post (nI x) (nI rb) (k + 1) (nI i) (nI N) (nI s) fl m cl t R B := by
  intro k
  have h6 := H.2.1
  have h12 := H.2.2.2.1
  induction k with
  | zero =>
    intro i h R B hB h1 h2
    obtain rfl : i = s := by omega
    exact br_t (nI_le (Nat.le_refl _) (by omega)) (hp B R hB h1 h2)
  | succ k ih =>
    intro i h R B hB h1 h2
    have hc := bw_stC H hx (show i < s by omega)
    have body : ∀ y : Int32, y = bw_st s m cl x i → wX_ringLead_40 post (wX_ringLead_2 post (nI x) (nI rb) (k + 1)) (nI x) (nI rb) (nI i) y (nI N) (nI s) fl m cl t R B := by
      intro y ey
      subst ey
      refine xr_40 h6 (by omega) hc hB (fun B' hB' => ?_)
      rw [← hg i (by omega)] at hB' ⊢
      refine ih (i + 1) (by omega) _ B' hB' (fun q hq => ?_) (fun q hq => ?_)
      · rw [pk_un (by omega)]; exact h1 q hq
      · by_cases e : q = i
        · subst e; exact pk_us
        · rw [pk_un (by omega)]; exact h2 q (by omega)
    refine br_f (nI_ge (by omega) (by omega)) ⟨vp_in_nI (by omega) (by omega), nm_r (e' := m i) (by rw [nI_clamp (by omega)]) ?_⟩
    by_cases hx0 : x = 0
    · subst hx0
      exact br_t rfl (body _ (by unfold bw_st; rw [if_neg (by omega)]))
    · refine br_f (nI_ne0 (by omega) (by omega)) (pk_eq i (s - 1) (fun e => ⟨vp_in_nI hx (by omega), nm_r (e' := cl x) (by rw [nI_clamp (by omega)]) (body _ ?_)⟩) (fun e => body _ ?_) rfl ?_)
      · unfold bw_st; rw [if_pos ⟨hx0, by omega⟩]
      · unfold bw_st; rw [if_neg (by omega)]
      · exact pk_sub (b := 1) (by omega)
theorem xr_lead {post : SX → Prop} {s x rb : Nat} {gs : Nat → (Nat → Nat)} (H : bw_St N s m cl) (hx : x < 3) (hr : rb + s < 253) (hg : ∀ j, j < s → gs (j + 1) = fun q => gs j (bw_sg N (bw_st s m cl x j) q)) (hB : bw_Ro N B (gs 0)) (hp : ∀ B' R', bw_Ro N B' (gs s) → (∀ q, q ≤ rb → R' q = R q) → (∀ q, q < s → R' (rb + 1 + q) = nI (bw_cd (gs (q + 1)) N)) → post (nI N, nI s, fl, m, cl, t, R', B')) : wpX_ringLead post (nI N, nI s, fl, m, cl, t, R, B) (nI x) (nI rb) :=
  ⟨s + 1, xr_ldL H hx hr hg hp s 0 (by omega) R B hB (fun _ _ => rfl) (fun _ h => absurd h (Nat.not_lt_zero _))⟩
end
section
variable {N s c : Nat} {m cl t R B : Nat → Int32} {tc : Nat → Nat}
/-- a lead more: the rows up to its end -/
theorem bw_ext {i : Nat} {R' : Nat → Int32} (h1 : ∀ q, q ≤ i * s → R q = bw_F N s m cl tc q) (h2 : ∀ q, q ≤ i * s → R' q = R q) (h3 : ∀ q, q < s → R' (i * s + 1 + q) = nI (bw_cd (bw_gs N s m cl tc (i * s + (q + 1))) N)) : ∀ q, q ≤ (i + 1) * s → R' q = bw_F N s m cl tc q := by
  intro q hq
  rw [Nat.add_mul, Nat.one_mul] at hq
  by_cases h : q ≤ i * s
  · rw [h2 q h, h1 q h]
  · have e := h3 (q - (i * s + 1)) (by omega)
    rw [show i * s + 1 + (q - (i * s + 1)) = q from by omega, show i * s + (q - (i * s + 1) + 1) = q from by omega] at e
    exact e
theorem bw_cs {c s i a b : Nat} (hc : c ≤ a) (hs : s ≤ b) (hi : i ≤ c) : i * s ≤ a * b := Nat.mul_le_mul (by omega) hs
theorem xr_tl {post : SX → Prop} (H : bw_St N s m cl) (h3 : ∀ i, tc i < 3) (hc : c ≤ 20) (ht : ∀ i, i < c → t i = nI (tc i)) (hp : ∀ B' R', bw_Ro N B' (bw_gs N s m cl tc (c * s)) → (∀ q, q ≤ c * s → R' q = bw_F N s m cl tc q) → post (nI N, nI s, nI c, m, cl, t, R', B')) : ∀ k i, i + k = c → ∀ R B, bw_Ro N B (bw_gs N s m cl tc (i * s)) → (∀ q, q ≤ i * s → R q = bw_F N s m cl tc q) → wX_ringTouch_6 post (k + 1) (nI i) (nI N) (nI s) (nI c) m cl t R B := by
  intro k
  have h12 := H.2.2.2.1
  induction k with
  | zero =>
    intro i h R B hB hR
    obtain rfl : i = c := by omega
    exact br_t (nI_le (Nat.le_refl _) (by omega)) (hp B R hB hR)
  | succ k ih =>
    intro i h R B hB hR
    have hb := bw_cs (i := i + 1) hc h12 (by omega)
    rw [Nat.add_mul, Nat.one_mul] at hb
    refine br_f (nI_ge (by omega) (by omega)) ⟨vp_in_nI (by omega) (by omega), ?_⟩
    rw [nI_clamp (by omega), ht i (by omega), pk_mul]
    refine xr_lead (gs := fun j => bw_gs N s m cl tc (i * s + j)) H (h3 i) (by omega) (fun j hj => bw_gsS hj) hB (fun B' R' hB' h1 h2 => ?_)
    refine nm_r (nI_1 i) (ih (i + 1) (by omega) R' B' ?_ (bw_ext hR h1 h2))
    rw [Nat.add_mul, Nat.one_mul]
    exact hB'
theorem xr_touch {post : SX → Prop} (H : bw_St N s m cl) (h3 : ∀ i, tc i < 3) (hc : c ≤ 20) (ht : ∀ i, i < c → t i = nI (tc i)) (hp : ∀ B' R', bw_Ro N B' (bw_gs N s m cl tc (c * s)) → (∀ q, q ≤ c * s → R' q = bw_F N s m cl tc q) → post (nI N, nI s, nI c, m, cl, t, R', B')) : wpX_ringTouch post (nI N, nI s, nI c, m, cl, t, R, B) := by
  refine xr_start H.2.1 (fun B' hB' => ?_)
  refine ⟨c + 1, xr_tl H h3 hc ht hp c 0 (by omega) _ B' ?_ (fun q hq => ?_)⟩
  · rw [Nat.zero_mul]; exact hB'
  · rw [Nat.zero_mul] at hq
    obtain rfl : q = 0 := by omega
    exact pk_us
end
end
section
/-! the reference's ringing -/
section
variable {N : Nat} {fs fc fl : Int32} {m cl t R B : Nat → Int32} {g : Nat → Nat}
theorem yr_codeL {post : Int32 → Prop} (hN : N ≤ 6) (hB : bw_Ro N B g) (hp : post (nI (bw_cd g N))) : ∀ k p, p + k = N → wY_code_4 post (nI N) fs fc fl m cl t B R (k + 1) (nI (bw_cd g p)) (nI p) := by
  intro k
  induction k with
  | zero =>
    intro p h
    obtain rfl : p = N := by omega
    exact br_t (nI_le (Nat.le_refl _) (by omega)) hp
  | succ k ih =>
    intro p h
    refine br_f (nI_ge (by omega) (by omega)) ⟨vp_in_nI (by omega) (by omega), nm_r (e' := nI (bw_cd g (p + 1))) ?_ (nm_r (nI_1 p) (ih (p + 1) (by omega)))⟩
    rw [nI_clamp (by omega), hB p (by omega), bw_cd, ← nI_add (10 * bw_cd g p), ← pk_mul]
    rfl
theorem yr_code {post : Int32 → Prop} (hN : N ≤ 6) (hB : bw_Ro N B g) (hp : post (nI (bw_cd g N))) : wpY_code post (nI N, fs, fc, fl, m, cl, t, B, R) :=
  ⟨N + 1, yr_codeL hN hB hp N 0 (by omega)⟩
theorem yr_roundL {post : SY → Prop} (hN : N ≤ 6) (hp : ∀ B', bw_Ro N B' (fun q => q) → post (nI N, fs, fc, fl, m, cl, t, B', R)) : ∀ k p, p + k = N → ∀ B, (∀ q, q < p → B q = nI (q + 1)) → wY_round_2 post (nI N) fs fc fl (k + 1) (nI p) m cl t B R := by
  intro k
  induction k with
  | zero =>
    intro p h B hB
    obtain rfl : p = N := by omega
    exact br_t (nI_le (Nat.le_refl _) (by omega)) (hp B hB)
  | succ k ih =>
    intro p h B hB
    refine br_f (nI_ge (by omega) (by omega)) ⟨vp_in_nI (by omega) (by omega), nm_r (e' := upd B p (nI (p + 1))) ?_ (nm_r (nI_1 p) (ih (p + 1) (by omega) _ ?_))⟩
    · rw [nI_clamp (by omega), nI_1]
    · intro q hq
      by_cases h2 : q = p
      · subst h2; exact pk_us
      · rw [pk_un h2]; exact hB q (by omega)
theorem yr_round {post : SY → Prop} (hN : N ≤ 6) (hp : ∀ B', bw_Ro N B' (fun q => q) → post (nI N, fs, fc, fl, m, cl, t, B', R)) : wpY_round post (nI N, fs, fc, fl, m, cl, t, B, R) :=
  ⟨N + 1, yr_roundL hN hp N 0 (by omega) B (fun _ h => absurd h (Nat.not_lt_zero _))⟩
theorem yr_ckT {N j k p : Nat} (h : p < N) (hb : bw_b j p = true) : bw_ck N j (k + 1) p = bw_ck N j k (p + 1) := by
  rw [bw_ck, if_pos h, if_pos hb]
theorem yr_ckF {N j k p : Nat} (h : p + 1 < N) (hb : bw_b j p = false) (hb1 : bw_b j (p + 1) = false) : bw_ck N j (k + 1) p = bw_ck N j k (p + 2) := by
  rw [bw_ck, if_pos (by omega), if_neg (by rw [hb]; decide), if_pos h, if_neg (by rw [hb1]; decide)]
theorem yr_ckN {N j k p : Nat} (h : p + 1 < N) (hb : bw_b j p = false) (hb1 : bw_b j (p + 1) = true) : bw_ck N j (k + 1) p = false := by
  rw [bw_ck, if_pos (by omega), if_neg (by rw [hb]; decide), if_pos h, if_pos hb1]
theorem yr_ckE {N j k p : Nat} (h : p < N) (h1 : N ≤ p + 1) (hb : bw_b j p = false) : bw_ck N j (k + 1) p = false := by
  rw [bw_ck, if_pos h, if_neg (by rw [hb]; decide), if_neg (by omega)]
theorem yr_ckO {N j k p : Nat} (h : N ≤ p) : bw_ck N j k p = true := by
  cases k with
  | zero => rfl
  | succ k => rw [bw_ck, if_neg (by omega)]
theorem yr_exL {post : SY → Prop} {j : Nat} (hN : N ≤ 6) (hj : j < 64) : ∀ k p b, N ≤ k + p → p ≤ 6 → bw_ck N j k p = true → post (nI N, fs, fc, fl, m, cl, t, bw_ex N j k p b, R) → wY_exchange_2 post (nI j) (nI N) fs fc fl (k + 1) (nI p) m cl t b R := by
  intro k
  induction k with
  | zero =>
    intro p b h hp6 hc hp
    exact br_t (nI_le (by omega) (by omega)) hp
  | succ k ih =>
    intro p b h hp6 hc hp
    by_cases h1 : N ≤ p
    · rw [bw_exE (by omega)] at hp
      exact br_t (nI_le (by omega) (by omega)) hp
    · refine br_f (nI_ge (by omega) (by omega)) ?_
      cases hb : bw_b j p with
      | true =>
        rw [yr_ckT (by omega) hb] at hc
        refine br_t (bw_bt (by omega) (by omega) hb) (nm_r (nI_1 p) (ih (p + 1) b (by omega) (by omega) hc ?_))
        by_cases h2 : p + 1 < N
        · rw [bw_exT h2 hb] at hp; exact hp
        · rw [bw_exE (by omega)] at hp ⊢; exact hp
      | false =>
        by_cases h2 : p + 1 < N
        · cases hb1 : bw_b j (p + 1) with
          | true => rw [yr_ckN h2 hb hb1] at hc; exact absurd hc (by decide)
          | false =>
            rw [yr_ckF h2 hb hb1] at hc
            rw [bw_exF h2 hb] at hp
            have hi : vp_in (nI p) 6 := vp_in_nI (by omega) (by omega)
            have hi1 : vp_in (nI p + 1) 6 := by rw [nI_1]; exact vp_in_nI (by omega) (by omega)
            exact br_f (by rw [bw_bf (by omega) (by omega) hb]; exact bw_01) ⟨hi, nm_e ⟨hi1, hi, nm_e ⟨hi1, nm_r (xr_sw (by omega)) (nm_r (nI_add p 2) (ih (p + 2) _ (by omega) (by omega) hc hp))⟩⟩⟩
        · rw [yr_ckE (by omega) (by omega) hb] at hc; exact absurd hc (by decide)
theorem yr_exch {post : SY → Prop} {x : Int32} (hN : N ≤ 6) (hx : bw_Ch N x) (hB : bw_Ro N B g) (hp : ∀ B', bw_Ro N B' (fun q => g (bw_sg N x q)) → post (nI N, fs, fc, fl, m, cl, t, B', R)) : wpY_exchange post (nI N, fs, fc, fl, m, cl, t, B, R) x := by
  obtain ⟨j, hj, rfl, hc⟩ := hx
  exact ⟨8, yr_exL hN (bw_p6 hN hj) 7 0 B (by omega) (by omega) hc (hp _ (bw_RoX hN hj hc hB))⟩
theorem yr_40 {post : SY → Prop} {J : Int32 → Int32 → Int32 → Int32 → Int32 → (Nat → Int32) → (Nat → Int32) → (Nat → Int32) → (Nat → Int32) → (Nat → Int32) → Prop} {x1 x : Int32} {l i : Nat} (hN : N ≤ 6) (hr : l + 1 < 260) (hx : bw_Ch N x) (hB : bw_Ro N B g) (hp : ∀ B', bw_Ro N B' (fun q => g (bw_sg N x q)) → J (nI (i + 1)) (nI N) fs fc (nI (l + 1)) m cl t B' (upd R (l + 1) (nI (bw_cd (fun q => g (bw_sg N x q)) N)))) : wY_ring_40 post J x1 (nI i) x (nI N) fs fc (nI l) m cl t B R := by
  unfold wY_ring_40
  refine yr_exch hN hx hB (fun B' hB' => ?_)
  refine nm_r (nI_1 l) ?_
  refine yr_code hN hB' ?_
  refine ⟨vp_in_nI hr (by omega), nm_r (e' := upd R (l + 1) (nI (bw_cd (fun q => g (bw_sg N x q)) N))) ?_ (nm_r (nI_1 i) (hp B' hB'))⟩
  rw [nI_clamp (by omega)]
theorem yr_ldL {post : SY → Prop} {s x rb : Nat} {gs : Nat → (Nat → Nat)} {R0 : Nat → Int32} (H : bw_St N s m cl) (hx : x < 3) (hr : rb + s < 260) (hg : ∀ j, j < s → gs (j + 1) = fun q => gs j (bw_sg N (bw_st s m cl x j) q)) (hp : ∀ B' R', bw_Ro N B' (gs s) → (∀ q, q ≤ rb → R' q = R0 q) → (∀ q, q < s → R' (rb + 1 + q) = nI (bw_cd (gs (q + 1)) N)) → post (nI N, nI s, fc, nI (rb + s), m, cl, t, B', R')) : ∀ k i, i + k = s → ∀ R B, bw_Ro N B (gs i) → (∀ q, q ≤ rb → R q = R0 q) → (∀ q, q < i → R (rb + 1 + q) = nI (bw_cd (gs (q + 1)) N)) → wY_ring_2 post (nI x) (k + 1) (nI i) (nI N) (nI s) fc (nI (rb + i)) m cl t B R := by
  intro k
  have h6 := H.2.1
  have h12 := H.2.2.2.1
  induction k with
  | zero =>
    intro i h R B hB h1 h2
    obtain rfl : i = s := by omega
    exact br_t (nI_le (Nat.le_refl _) (by omega)) (hp B R hB h1 h2)
  | succ k ih =>
    intro i h R B hB h1 h2
    have hc := bw_stC H hx (show i < s by omega)
    have body : ∀ y : Int32, y = bw_st s m cl x i → wY_ring_40 post (wY_ring_2 post (nI x) (k + 1)) (nI x) (nI i) y (nI N) (nI s) fc (nI (rb + i)) m cl t B R := by
      intro y ey
      subst ey
      refine yr_40 h6 (by omega) hc hB (fun B' hB' => ?_)
      rw [← hg i (by omega)] at hB' ⊢
      refine ih (i + 1) (by omega) _ B' hB' (fun q hq => ?_) (fun q hq => ?_)
      · rw [pk_un (by omega)]; exact h1 q hq
      · by_cases e : q = i
        · subst e
          rw [show rb + 1 + q = rb + q + 1 from by omega]; exact pk_us
        · rw [pk_un (by omega)]; exact h2 q (by omega)
    have b34 : m i = bw_st s m cl x i → wY_ring_34 post (wY_ring_2 post (nI x) (k + 1)) (nI x) (nI i) (nI N) (nI s) fc (nI (rb + i)) m cl t B R := by
      intro e
      unfold wY_ring_34
      refine ⟨vp_in_nI (by omega) (by omega), body _ ?_⟩
      rw [nI_clamp (by omega)]; exact e
    refine br_f (nI_ge (by omega) (by omega)) (pk_eq i (s - 1) (fun e => ?_) (fun e => b34 ?_) rfl ?_)
    · by_cases hx0 : x = 0
      · subst hx0
        exact br_t (nI_le (a := 0) (b := 0) (by decide) (by decide)) (b34 (by unfold bw_st; rw [if_neg (by omega)]))
      · refine br_f (nI_nle (by omega) (by omega)) ⟨vp_in_nI hx (by omega), body _ ?_⟩
        rw [nI_clamp (by omega)]
        unfold bw_st; rw [if_pos ⟨hx0, by omega⟩]
    · unfold bw_st; rw [if_neg (by omega)]
    · exact pk_sub (b := 1) (by omega)
theorem yr_lead {post : SY → Prop} {s x rb : Nat} {gs : Nat → (Nat → Nat)} (H : bw_St N s m cl) (hx : x < 3) (hr : rb + s < 260) (hg : ∀ j, j < s → gs (j + 1) = fun q => gs j (bw_sg N (bw_st s m cl x j) q)) (hB : bw_Ro N B (gs 0)) (hp : ∀ B' R', bw_Ro N B' (gs s) → (∀ q, q ≤ rb → R' q = R q) → (∀ q, q < s → R' (rb + 1 + q) = nI (bw_cd (gs (q + 1)) N)) → post (nI N, nI s, fc, nI (rb + s), m, cl, t, B', R')) : wpY_ring post (nI N, nI s, fc, nI rb, m, cl, t, B, R) (nI x) :=
  ⟨s + 1, yr_ldL H hx hr hg hp s 0 (by omega) R B hB (fun _ _ => rfl) (fun _ h => absurd h (Nat.not_lt_zero _))⟩
end
section
variable {N s c : Nat} {fl : Int32} {m cl t R B : Nat → Int32} {tc : Nat → Nat}
theorem yr_tl {post : SY → Prop} (H : bw_St N s m cl) (h3 : ∀ i, tc i < 3) (hc : c ≤ 20) (ht : ∀ i, i < c → t i = nI (tc i)) (hp : ∀ B' R', bw_Ro N B' (bw_gs N s m cl tc (c * s)) → (∀ q, q ≤ c * s → R' q = bw_F N s m cl tc q) → post (nI N, nI s, nI c, nI (c * s), m, cl, t, B', R')) : ∀ k i, i + k = c → ∀ R B, bw_Ro N B (bw_gs N s m cl tc (i * s)) → (∀ q, q ≤ i * s → R q = bw_F N s m cl tc q) → wY_write_21 post (k + 1) (nI i) (nI N) (nI s) (nI c) (nI (i * s)) m cl t B R := by
  intro k
  have h12 := H.2.2.2.1
  induction k with
  | zero =>
    intro i h R B hB hR
    obtain rfl : i = c := by omega
    exact br_t (nI_le (Nat.le_refl _) (by omega)) (hp B R hB hR)
  | succ k ih =>
    intro i h R B hB hR
    have hb := bw_cs (i := i + 1) hc h12 (by omega)
    have e : (i + 1) * s = i * s + s := by rw [Nat.add_mul, Nat.one_mul]
    refine br_f (nI_ge (by omega) (by omega)) ⟨vp_in_nI (by omega) (by omega), ?_⟩
    rw [nI_clamp (by omega), ht i (by omega)]
    refine yr_lead (gs := fun j => bw_gs N s m cl tc (i * s + j)) H (h3 i) (by omega) (fun j hj => bw_gsS hj) hB (fun B' R' hB' h1 h2 => ?_)
    refine nm_r (nI_1 i) ?_
    rw [← e] at hB' ⊢
    exact ih (i + 1) (by omega) R' B' hB' (bw_ext hR h1 h2)
theorem yr_write {post : SY → Prop} (H : bw_St N s m cl) (h3 : ∀ i, tc i < 3) (hc : c ≤ 20) (ht : ∀ i, i < c → t i = nI (tc i)) (hp : ∀ B' R', bw_Ro N B' (bw_gs N s m cl tc (c * s)) → (∀ q, q ≤ c * s → R' q = bw_F N s m cl tc q) → post (nI N, nI s, nI c, nI (c * s), m, cl, t, B', R')) : wpY_write post (nI N, nI s, nI c, fl, m, cl, t, B, R) := by
  refine yr_round H.2.1 (fun B' hB' => ?_)
  refine yr_code H.2.1 hB' (nm_e ?_)
  have h := yr_tl H h3 hc ht hp c 0 (by omega) (upd R 0 (nI (bw_cd (fun q => q) N))) B' (by rw [Nat.zero_mul]; exact hB') (fun q hq => by
    rw [Nat.zero_mul] at hq
    obtain rfl : q = 0 := by omega
    exact pk_us)
  rw [Nat.zero_mul] at h
  exact ⟨c + 1, h⟩
end
end
section
/-! scans and counts -/
def bw_ct (f : Nat → Bool) : Nat → Nat
  | 0 => 0
  | k + 1 => bw_ct f k + (if f (k + 1) then 1 else 0)
theorem bw_ctT {f : Nat → Bool} {k : Nat} (h : f (k + 1) = true) : bw_ct f (k + 1) = bw_ct f k + 1 := by rw [bw_ct, if_pos h]
theorem bw_ctF {f : Nat → Bool} {k : Nat} (h : f (k + 1) = false) : bw_ct f (k + 1) = bw_ct f k := by rw [bw_ct, if_neg (by rw [h]; decide), Nat.add_zero]
theorem bw_ctC {f g : Nat → Bool} : ∀ e, (∀ k, 1 ≤ k → k ≤ e → f k = g k) → bw_ct f e = bw_ct g e := by
  intro e
  induction e with
  | zero => intro _; rfl
  | succ e ih => intro h; rw [bw_ct, bw_ct, ih (fun k h1 h2 => h k h1 (by omega)), h (e + 1) (by omega) (by omega)]
theorem bw_ctLe (f : Nat → Bool) : ∀ e, bw_ct f e ≤ e := by
  intro e
  induction e with
  | zero => exact Nat.le_refl _
  | succ e ih =>
    cases h : f (e + 1) with
    | true => rw [bw_ctT h]; omega
    | false => rw [bw_ctF h]; omega
theorem bw_ctA {f : Nat → Bool} : ∀ e, (∀ k, 1 ≤ k → k ≤ e → f k = true) → bw_ct f e = e := by
  intro e
  induction e with
  | zero => intro _; rfl
  | succ e ih => intro h; rw [bw_ctT (h (e + 1) (by omega) (by omega)), ih (fun k h1 h2 => h k h1 (by omega))]
theorem bw_ctN {f : Nat → Bool} : ∀ e, (∃ k, 1 ≤ k ∧ k ≤ e ∧ f k = false) → bw_ct f e < e := by
  intro e
  induction e with
  | zero => intro ⟨k, h1, h2, _⟩; omega
  | succ e ih =>
    intro ⟨k, h1, h2, h3⟩
    have hl := bw_ctLe f e
    cases h : f (e + 1) with
    | false => rw [bw_ctF h]; omega
    | true =>
      have hk : k ≠ e + 1 := by
        intro z
        rw [z, h] at h3
        exact absurd h3 (by decide)
      have := ih ⟨k, h1, by omega, h3⟩
      rw [bw_ctT h]; omega
/-- row k is none of the rows before it -/
def bw_fr (F : Nat → Int32) (k : Nat) : Bool := decide (∀ q, q < k → 1 ≤ q → F q ≠ F k)
theorem bw_frT {F : Nat → Int32} {k : Nat} (h : ∀ q, q < k → 1 ≤ q → F q ≠ F k) : bw_fr F k = true := decide_eq_true h
theorem bw_frF {F : Nat → Int32} {k q : Nat} (hq : q < k) (h1 : 1 ≤ q) (h : F q = F k) : bw_fr F k = false := decide_eq_false (fun z => z q hq h1 h)
theorem bw_frC {F G : Nat → Int32} {e : Nat} (h : ∀ q, q ≤ e → F q = G q) {k : Nat} (hk : k ≤ e) : bw_fr F k = bw_fr G k := by
  unfold bw_fr
  apply decide_eq_decide.mpr
  constructor
  · intro a q h1 h2; rw [← h q (by omega), ← h k hk]; exact a q h1 h2
  · intro a q h1 h2; rw [h q (by omega), h k hk]; exact a q h1 h2
section
variable {fb fc fl : Int32} {m cl t R B : Nat → Int32}
theorem xr_amL {post : Int32 → Prop} {x : Int32} {a b : Nat} (hb : b < 253) (h1 : (∃ q, a ≤ q ∧ q ≤ b ∧ R q = x) → post 1) (h0 : (∀ q, a ≤ q → q ≤ b → R q ≠ x) → post 0) : ∀ k p, a ≤ p → b < p + k → p < 300 → (∀ q, a ≤ q → q < p → R q ≠ x) → wX_isAmong_3 post x (nI b) fb fc fl m cl t R B (k + 1) (nI p) := by
  intro k
  induction k with
  | zero =>
    intro p ha h hp hq
    exact br_t (nI_lt (by omega) (by omega)) (h0 (fun q h2 h3 => hq q h2 (by omega)))
  | succ k ih =>
    intro p ha h hp hq
    by_cases hbp : b < p
    · exact br_t (nI_lt hbp (by omega)) (h0 (fun q h2 h3 => hq q h2 (by omega)))
    · refine br_f (nI_nlt (by omega) (by omega)) ⟨vp_in_nI (by omega) (by omega), ?_⟩
      rw [nI_clamp (by omega)]
      by_cases hx : R p = x
      · exact br_t hx (h1 ⟨p, ha, by omega, hx⟩)
      · refine br_f hx (nm_r (nI_1 p) (ih (p + 1) (by omega) (by omega) (by omega) (fun q h2 h3 => ?_)))
        by_cases e : q = p
        · rw [e]; exact hx
        · exact hq q h2 (by omega)
theorem xr_among {post : Int32 → Prop} {x : Int32} {a b : Nat} (ha : a < 253) (hb : b < 253) (h1 : (∃ q, a ≤ q ∧ q ≤ b ∧ R q = x) → post 1) (h0 : (∀ q, a ≤ q → q ≤ b → R q ≠ x) → post 0) : wpX_isAmong post (fb, fc, fl, m, cl, t, R, B) x (nI a) (nI b) :=
  ⟨b + 2, xr_amL hb h1 h0 (b + 1) a (Nat.le_refl _) (by omega) (by omega) (fun q h2 h3 => absurd h3 (by omega))⟩
/-- is row p among those before it -/
theorem xr_old {post : Int32 → Prop} {p : Nat} (hp : 1 ≤ p) (hb : p < 253) (h1 : bw_fr R p = false → post 1) (h0 : bw_fr R p = true → post 0) : wpX_isAmong post (fb, fc, fl, m, cl, t, R, B) (R (nI p).toNatClampNeg) 1 (nI p - 1) := by
  rw [nI_clamp (by omega), show nI p - 1 = nI (p - 1) from pk_sub (b := 1) hp]
  refine xr_among (a := 1) (by omega) (by omega) (fun ⟨q, a, b, e⟩ => h1 (bw_frF (by omega) a e)) (fun h => h0 (bw_frT (fun q a b => h q b (by omega))))
theorem xr_repL {post : Int32 → Prop} {e : Nat} (he : e < 253) (h1 : (∃ k, 1 ≤ k ∧ k ≤ e ∧ bw_fr R k = false) → post 1) (h0 : (∀ k, 1 ≤ k → k ≤ e → bw_fr R k = true) → post 0) : ∀ k p, 2 ≤ p → e < p + k → p < 300 → (∀ q, 1 ≤ q → q < p → bw_fr R q = true) → wX_hasRepeat_2 post (nI e) fb fc fl m cl t R B (k + 1) (nI p) := by
  intro k
  induction k with
  | zero =>
    intro p ha h hp hq
    exact br_t (nI_lt (by omega) (by omega)) (h0 (fun q h2 h3 => hq q h2 (by omega)))
  | succ k ih =>
    intro p ha h hp hq
    by_cases hbp : e < p
    · exact br_t (nI_lt hbp (by omega)) (h0 (fun q h2 h3 => hq q h2 (by omega)))
    · refine br_f (nI_nlt (by omega) (by omega)) ⟨vp_in_nI (by omega) (by omega), ?_⟩
      refine xr_old (by omega) (by omega) (fun hx => br_f bw_10 (h1 ⟨p, by omega, by omega, hx⟩)) (fun hx => br_t rfl (nm_r (nI_1 p) (ih (p + 1) (by omega) (by omega) (by omega) (fun q h2 h3 => ?_))))
      by_cases e : q = p
      · rw [e]; exact hx
      · exact hq q h2 (by omega)
theorem xr_rep {post : Int32 → Prop} {e : Nat} (he : e < 253) (h1 : bw_ct (bw_fr R) e < e → post 1) (h0 : bw_ct (bw_fr R) e = e → post 0) : wpX_hasRepeat post (fb, fc, fl, m, cl, t, R, B) (nI e) :=
  ⟨e + 1, xr_repL he (fun h => h1 (bw_ctN e h)) (fun h => h0 (bw_ctA e h)) e 2 (by omega) (by omega) (by omega) (fun q h2 h3 => bw_frT (fun r h4 h5 => absurd h4 (by omega)))⟩
theorem xr_difL {post : Int32 → SX → Prop} {e : Nat} (he : e < 253) (hp : post (nI (bw_ct (bw_fr R) e)) (fb, fc, fl, m, cl, t, R, B)) : ∀ k p, p + k = e → wX_different_13 post (nI e) fb fc fl m cl t R B (k + 1) (nI (bw_ct (bw_fr R) p)) (nI (p + 1)) := by
  intro k
  induction k with
  | zero =>
    intro p h
    obtain rfl : p = e := by omega
    exact br_t (nI_lt (by omega) (by omega)) hp
  | succ k ih =>
    intro p h
    have hi := ih (p + 1) (by omega)
    refine br_f (nI_nlt (by omega) (by omega)) ⟨vp_in_nI (by omega) (by omega), ?_⟩
    refine xr_old (by omega) (by omega) (fun hx => br_f bw_10 (nm_r (nI_1 _) ?_)) (fun hx => br_t rfl (nm_r (nI_1 _) (nm_r (nI_1 _) ?_)))
    · rw [bw_ctF hx] at hi; exact hi
    · rw [bw_ctT hx] at hi; exact hi
end
section
variable {fn fs fc : Int32} {m cl t R B : Nat → Int32}
theorem yr_cdA {post : Int32 → Prop} {J : Int32 → Int32 → Prop} {e : Int32} {x p : Nat} (hp : p < 260) (hJ : J (nI x) (nI (p + 1))) : ∀ k q, q + k = p → wY_countDifferent_17 post J (nI x) (nI p) fn fs fc e m cl t B R (k + 1) 0 (nI q) := by
  intro k
  induction k with
  | zero =>
    intro q h
    exact br_t (nI_le (by omega) (by omega)) (br_t rfl (nm_r (nI_1 _) hJ))
  | succ k ih =>
    intro q h
    exact br_f (nI_ge (by omega) (by omega)) (br_t rfl (nm_r (nI_1 _) (ih (q + 1) (by omega))))
theorem yr_cdB {post : Int32 → Prop} {J : Int32 → Int32 → Prop} {e : Int32} {x p : Nat} (hp : p < 260) (h1 : bw_fr R p = true → J (nI (x + 1)) (nI (p + 1))) (h0 : bw_fr R p = false → J (nI x) (nI (p + 1))) : ∀ k q, q + k = p → 1 ≤ q → (∀ r, r < q → 1 ≤ r → R r ≠ R p) → wY_countDifferent_17 post J (nI x) (nI p) fn fs fc e m cl t B R (k + 1) 1 (nI q) := by
  intro k
  induction k with
  | zero =>
    intro q h hq hr
    obtain rfl : q = p := by omega
    exact br_t (nI_le (by omega) (by omega)) (br_f bw_10 (nm_r (nI_1 _) (nm_r (nI_1 _) (h1 (bw_frT hr)))))
  | succ k ih =>
    intro q h hq hr
    refine br_f (nI_ge (by omega) (by omega)) (br_f bw_10 ⟨vp_in_nI (by omega) (by omega), vp_in_nI (by omega) (by omega), ?_⟩)
    rw [nI_clamp (by omega), nI_clamp (by omega)]
    by_cases hx : R q = R p
    · exact br_t hx (nm_r (nI_1 _) (yr_cdA hp (h0 (bw_frF (by omega) hq hx)) k (q + 1) (by omega)))
    · refine br_f hx (nm_r (nI_1 _) (ih (q + 1) (by omega) (by omega) (fun r h2 h3 => ?_)))
      by_cases e : r = q
      · rw [e]; exact hx
      · exact hr r (by omega) h3
theorem yr_cdL {post : Int32 → Prop} {e : Nat} (he : e < 260) (hp : post (nI (bw_ct (bw_fr R) e))) : ∀ k p, p + k = e → wY_countDifferent_4 post fn fs fc (nI e) m cl t B R (k + 1) (nI (bw_ct (bw_fr R) p)) (nI (p + 1)) := by
  intro k
  induction k with
  | zero =>
    intro p h
    obtain rfl : p = e := by omega
    exact br_t (nI_lt (by omega) (by omega)) hp
  | succ k ih =>
    intro p h
    have hi := ih (p + 1) (by omega)
    refine br_f (nI_nlt (by omega) (by omega)) ⟨p + 1, yr_cdB (by omega) (fun hx => ?_) (fun hx => ?_) p 1 (by omega) (by omega) (fun r h2 h3 => absurd h2 (by omega))⟩
    · rw [bw_ctT hx] at hi; exact hi
    · rw [bw_ctF hx] at hi; exact hi
theorem yr_cd {post : Int32 → Prop} {e : Nat} (he : e < 260) (hp : post (nI (bw_ct (bw_fr R) e))) : wpY_countDifferent post (fn, fs, fc, nI e, m, cl, t, B, R) :=
  ⟨e + 1, yr_cdL he hp e 0 (by omega)⟩
end
end
section
/-! places of bells; pairs of leads -/
theorem bw_dg {g : Nat → Nat} {p : Nat} (h : g p < 6) : bw_cd g (p + 1) % 10 = g p + 1 ∧ bw_cd g (p + 1) / 10 = bw_cd g p := by
  rw [bw_cd]; omega
theorem bw_rem {n : Nat} (h : n < 1000000) : nI n - nI n / 10 * 10 = nI (n % 10) := pk_rem (d := 10) (by omega) (by decide) (by decide)
theorem bw_div {n : Nat} (h : n < 1000000) : nI n / 10 = nI (n / 10) := pk_div (d := 10) (by omega) (by decide) (by decide)
theorem bw_t0 : ¬ (10 : Int32) = 0 := by decide
section
variable {N y q : Nat} {g : Nat → Nat} {fs fc fl : Int32} {m cl t R B : Nat → Int32}
theorem xr_plL {post : Int32 → Prop} {fb : Int32} (hN : N ≤ 6) (hg : bw_Pm N g) (hq : q < N) (hy : g q + 1 = y) (hp : post (nI q)) : ∀ p, p < N → q ≤ p → wX_placeIn_10 post (nI y) fb fc fl m cl t R B (p + 1) (nI (bw_cd g (p + 1))) (nI p) := by
  intro p
  have hl := bw_PmL hg
  induction p with
  | zero =>
    intro _ h
    obtain rfl : q = 0 := by omega
    exact br_t (nI_le (a := 0) (b := 0) (by decide) (by decide)) hp
  | succ p ih =>
    intro h1 h2
    have hc := bw_cdL hN hl (p := p + 1 + 1) (by omega)
    have hd := bw_dg (g := g) (p := p + 1) (by have := hl (p + 1) h1; omega)
    have hq6 := hl q hq
    have hp6 := hl (p + 1) h1
    refine br_f (nI_nle (by omega) (by omega)) ⟨bw_t0, ?_⟩
    rw [bw_rem hc, bw_div hc, hd.1, hd.2]
    refine pk_eq (g (p + 1) + 1) y (fun e => ?_) (fun e => ⟨bw_t0, nm_e (nm_r (pk_m1 p) (ih (by omega) ?_))⟩)
    · rw [bw_PmInj hg h1 hq (by omega)]; exact hp
    · have : q ≠ p + 1 := by
        intro z
        rw [z] at hy
        exact e hy
      omega
theorem xr_plc {post : Int32 → Prop} (hN : N ≤ 6) (hg : bw_Pm N g) (hq : q < N) (hy : g q + 1 = y) (hp : post (nI q)) : wpX_placeIn post (nI N, fc, fl, m, cl, t, R, B) (nI (bw_cd g N)) (nI y) := by
  have h := xr_plL (fb := nI N) (fc := fc) (fl := fl) (m := m) (cl := cl) (t := t) (R := R) (B := B) hN hg hq hy hp (N - 1) (by omega) (by omega)
  rw [show N - 1 + 1 = N from by omega] at h
  exact nm_r (show nI N - 1 = nI (N - 1) from pk_sub (b := 1) (by omega)) ⟨N, h⟩
theorem yr_plL {post : Int32 → SY → Prop} {fb : Int32} (hN : N ≤ 6) (hg : bw_Pm N g) (hq : q < N) (hy : g q + 1 = y) (hp : post (nI q) (fb, fs, fc, fl, m, cl, t, B, R)) : ∀ p, p < N → q ≤ p → wY_place_37 post (nI y) fb fs fc fl m cl t B R (p + 1) (nI (bw_cd g (p + 1))) (nI p) := by
  intro p
  have hl := bw_PmL hg
  induction p with
  | zero =>
    intro h1 h
    obtain rfl : q = 0 := by omega
    have hc := bw_cdL hN hl (p := 0 + 1) (by omega)
    have hd := bw_dg (g := g) (p := 0) (by have := hl 0 h1; omega)
    refine ⟨bw_t0, ?_⟩
    rw [bw_rem hc, hd.1]
    exact br_t (by rw [hy]) hp
  | succ p ih =>
    intro h1 h2
    have hc := bw_cdL hN hl (p := p + 1 + 1) (by omega)
    have hd := bw_dg (g := g) (p := p + 1) (by have := hl (p + 1) h1; omega)
    have hq6 := hl q hq
    have hp6 := hl (p + 1) h1
    refine ⟨bw_t0, ?_⟩
    rw [bw_rem hc, bw_div hc, hd.1, hd.2]
    refine pk_eq (g (p + 1) + 1) y (fun e => ?_) (fun e => ⟨bw_t0, nm_e (nm_r (pk_m1 p) (ih (by omega) ?_))⟩)
    · rw [bw_PmInj hg h1 hq (by omega)]; exact hp
    · have : q ≠ p + 1 := by
        intro z
        rw [z] at hy
        exact e hy
      omega
theorem yr_plc {post : Int32 → SY → Prop} (hN : N ≤ 6) (hg : bw_Pm N g) (hq : q < N) (hy : g q + 1 = y) (hp : post (nI q) (nI N, fs, fc, fl, m, cl, t, B, R)) : ∀ x : Int32, x = nI N - 1 → ∃ n, wY_place_37 post (nI y) (nI N) fs fc fl m cl t B R n (nI (bw_cd g N)) x := by
  have h := yr_plL hN hg hq hy hp (N - 1) (by omega) (by omega)
  rw [show N - 1 + 1 = N from by omega] at h
  exact nm_r (show nI N - 1 = nI (N - 1) from pk_sub (b := 1) (by omega)) ⟨N, h⟩
end
/-- every bell has its place -/
theorem bw_PmF {N : Nat} {g : Nat → Nat} (hg : bw_Pm N g) {y : Nat} (h1 : 1 ≤ y) (h2 : y ≤ N) : ∃ q, q < N ∧ g q + 1 = y := by
  obtain ⟨f, hf⟩ := hg
  have h := hf (y - 1) (by omega)
  exact ⟨f (y - 1), h.2.1, by rw [h.2.2.1]; omega⟩
section
variable {N y e : Nat} {gs : Nat → (Nat → Nat)} {fs fc fl : Int32} {m cl t R B : Nat → Int32}
theorem xr_lsL {post : Int32 → SX → Prop} (hN : N ≤ 6) (he : e < 253) (h1 : 1 ≤ y) (h2 : y ≤ N) (hg : ∀ k, bw_Pm N (gs k)) (hR : ∀ k, k ≤ e → R k = nI (bw_cd (gs k) N)) (hp : post (nI (bw_ct (fun k => decide (gs k 0 + 1 = y)) e)) (nI N, fc, fl, m, cl, t, R, B)) : ∀ k p, p + k = e → wX_leads_24 post (nI y) (nI e) (nI N) fc fl m cl t R B (k + 1) (nI (bw_ct (fun k => decide (gs k 0 + 1 = y)) p)) (nI (p + 1)) := by
  intro k
  induction k with
  | zero =>
    intro p h
    obtain rfl : p = e := by omega
    exact br_t (nI_lt (by omega) (by omega)) hp
  | succ k ih =>
    intro p h
    have hi := ih (p + 1) (by omega)
    refine br_f (nI_nlt (by omega) (by omega)) ⟨vp_in_nI (by omega) (by omega), ?_⟩
    rw [nI_clamp (by omega), hR (p + 1) (by omega)]
    obtain ⟨q, hq, hy⟩ := bw_PmF (hg (p + 1)) h1 h2
    refine xr_plc hN (hg (p + 1)) hq hy ?_
    by_cases hq0 : q = 0
    · subst hq0
      rw [bw_ctT (decide_eq_true hy)] at hi
      exact br_t rfl (nm_r (nI_1 _) (nm_r (nI_1 _) hi))
    · rw [bw_ctF (decide_eq_false (fun z => hq0 (bw_PmInj (hg (p + 1)) hq (by omega) (by omega))))] at hi
      exact br_f (nI_ne0 (by omega) (by omega)) (nm_r (nI_1 _) hi)
theorem yr_lsL {post : Int32 → SY → Prop} (h3 : 1 ≤ N) (hN : N ≤ 6) (he : e < 260) (h1 : 1 ≤ y) (h2 : y ≤ N) (hg : ∀ k, bw_Pm N (gs k)) (hR : ∀ k, k ≤ e → R k = nI (bw_cd (gs k) N)) (hp : post (nI (bw_ct (fun k => decide (gs k 0 + 1 = y)) e)) (nI N, fs, fc, nI e, m, cl, t, B, R)) : ∀ k p, p + k = e → wY_leads_42 post (nI y) (nI (10 ^ (N - 1))) (nI N) fs fc (nI e) m cl t B R (k + 1) (nI (bw_ct (fun k => decide (gs k 0 + 1 = y)) p)) (nI (p + 1)) := by
  intro k
  have ht : 10 ^ (N - 1) ≤ 10 ^ 5 := Nat.pow_le_pow_right (by decide) (by omega)
  have ht0 : 0 < 10 ^ (N - 1) := Nat.pow_pos (by decide)
  have ht1 : 10 ^ 5 = 100000 := by decide
  induction k with
  | zero =>
    intro p h
    obtain rfl : p = e := by omega
    exact br_t (nI_lt (by omega) (by omega)) hp
  | succ k ih =>
    intro p h
    have hi := ih (p + 1) (by omega)
    have hl := bw_PmL (hg (p + 1))
    have hc := bw_cdL hN hl (p := N) (by omega)
    have h0 := hl 0 (by omega)
    refine br_f (nI_nlt (by omega) (by omega)) ⟨vp_in_nI (by omega) (by omega), nI_ne0 ht0 (by omega), ?_⟩
    rw [nI_clamp (by omega), hR (p + 1) (by omega), pk_div (by omega) ht0 (by omega), bw_cdH h3 hN hl]
    refine pk_eq (gs (p + 1) 0 + 1) y (fun z => ?_) (fun z => ?_)
    · rw [bw_ctT (decide_eq_true z)] at hi
      exact nm_r (nI_1 _) (nm_r (nI_1 _) hi)
    · rw [bw_ctF (decide_eq_false z)] at hi
      exact nm_r (nI_1 _) hi
theorem yr_top {post : Int32 → SY → Prop} (h3 : 1 ≤ N) (hN : N ≤ 6) (hp : ∃ n, wY_leads_42 post (nI y) (nI (10 ^ (N - 1))) (nI N) fs fc fl m cl t B R n 0 1) : ∀ k p, p + 1 + k = N → wY_leads_18 post (nI y) (nI N) fs fc fl m cl t B R (k + 1) (nI (10 ^ p)) (nI (p + 1)) := by
  intro k
  induction k with
  | zero =>
    intro p h
    obtain rfl : N = p + 1 := by omega
    exact br_t (nI_le (by omega) (by omega)) hp
  | succ k ih =>
    intro p h
    refine br_f (nI_ge (by omega) (by omega)) (nm_r (e' := nI (10 ^ (p + 1))) ?_ (nm_r (nI_1 _) (ih (p + 1) (by omega))))
    rw [Nat.pow_succ, Nat.mul_comm, ← pk_mul]
    rfl
end
/-- a row belongs to the leads a and b -/
def bw_sh (s : Nat) (R : Nat → Int32) (a b : Nat) : Prop := ∃ i j, 1 ≤ i ∧ i ≤ s ∧ 1 ≤ j ∧ j ≤ s ∧ R (a * s + i) = R (b * s + j)
section
variable {s c a b : Nat} {fb fl : Int32} {m cl t R B : Nat → Int32}
theorem xr_shL {post : Int32 → Prop} (hs : s ≤ 12) (ha : a * s + s < 253) (hb : b * s + s < 253) (h1 : bw_sh s R a b → post 1) (h0 : ¬ bw_sh s R a b → post 0) : ∀ k p, p + k = s → (∀ i j, 1 ≤ i → i ≤ s → 1 ≤ j → j ≤ p → R (a * s + i) ≠ R (b * s + j)) → wX_shareRow_18 post (nI (a * s)) (nI (b * s)) fb (nI s) fl m cl t R B (k + 1) (nI (p + 1)) := by
  intro k
  induction k with
  | zero =>
    intro p h hr
    exact br_t (nI_lt (by omega) (by omega)) (h0 (fun ⟨i, j, q1, q2, q3, q4, e⟩ => hr i j q1 q2 q3 (by omega) e))
  | succ k ih =>
    intro p h hr
    refine br_f (nI_nlt (by omega) (by omega)) ?_
    rw [nI_add, nI_add, nI_1 (a * s), nI_clamp (by omega)]
    refine ⟨vp_in_nI (by omega) (by omega), xr_among (by omega) (by omega) (fun ⟨q, q1, q2, e⟩ => br_f bw_10 (h1 ⟨q - a * s, p + 1, by omega, by omega, by omega, by omega, ?_⟩)) (fun hn => br_t rfl (nm_r (nI_1 _) (ih (p + 1) (by omega) (fun i j q1 q2 q3 q4 => ?_))))⟩
    · rw [show a * s + (q - a * s) = q from by omega]; exact e
    · by_cases z : j = p + 1
      · rw [z]; exact hn _ (by omega) (by omega)
      · exact hr i j q1 q2 q3 (by omega)
theorem xr_share {post : Int32 → Prop} (hs : s ≤ 12) (ha : a * s + s < 253) (hb : b * s + s < 253) (h1 : bw_sh s R a b → post 1) (h0 : ¬ bw_sh s R a b → post 0) : wpX_shareRow post (fb, nI s, fl, m, cl, t, R, B) (nI a) (nI b) :=
  nm_r (pk_mul a s) (nm_r (pk_mul b s) ⟨s + 1, xr_shL hs ha hb h1 h0 s 0 (by omega) (fun i j _ _ q3 q4 => absurd q3 (by omega))⟩)
theorem yr_shI {post : Int32 → Prop} {J : Int32 → Prop} {fc : Int32} {i : Nat} (hs : s ≤ 12) (hi : 1 ≤ i) (his : i ≤ s) (ha : a * s + s < 260) (hb : b * s + s < 260) (h1 : bw_sh s R a b → post 1) (h0 : (∀ j, 1 ≤ j → j ≤ s → R (a * s + i) ≠ R (b * s + j)) → J (nI (i + 1))) : ∀ k p, p + k = s → (∀ j, 1 ≤ j → j ≤ p → R (a * s + i) ≠ R (b * s + j)) → wY_share_13 post J (nI a) (nI b) (nI i) fb (nI s) fc fl m cl t B R (k + 1) (nI (p + 1)) := by
  intro k
  induction k with
  | zero =>
    intro p h hr
    exact br_t (nI_lt (by omega) (by omega)) (nm_r (nI_1 _) (h0 (fun j q1 q2 => hr j q1 (by omega))))
  | succ k ih =>
    intro p h hr
    refine br_f (nI_nlt (by omega) (by omega)) ?_
    rw [pk_mul, pk_mul, nI_add, nI_add, nI_clamp (by omega), nI_clamp (by omega)]
    refine ⟨vp_in_nI (by omega) (by omega), vp_in_nI (by omega) (by omega), ?_⟩
    by_cases hx : R (a * s + i) = R (b * s + (p + 1))
    · exact br_t hx (h1 ⟨i, p + 1, hi, his, by omega, by omega, hx⟩)
    · refine br_f hx (nm_r (nI_1 _) (ih (p + 1) (by omega) (fun j q1 q2 => ?_)))
      by_cases z : j = p + 1
      · rw [z]; exact hx
      · exact hr j q1 (by omega)
theorem yr_shL {post : Int32 → Prop} {fc : Int32} (hs : s ≤ 12) (ha : a * s + s < 260) (hb : b * s + s < 260) (h1 : bw_sh s R a b → post 1) (h0 : ¬ bw_sh s R a b → post 0) : ∀ k p, p + k = s → (∀ i j, 1 ≤ i → i ≤ p → 1 ≤ j → j ≤ s → R (a * s + i) ≠ R (b * s + j)) → wY_share_2 post (nI a) (nI b) fb (nI s) fc fl m cl t B R (k + 1) (nI (p + 1)) := by
  intro k
  induction k with
  | zero =>
    intro p h hr
    exact br_t (nI_lt (by omega) (by omega)) (h0 (fun ⟨i, j, q1, q2, q3, q4, e⟩ => hr i j q1 (by omega) q3 q4 e))
  | succ k ih =>
    intro p h hr
    refine br_f (nI_nlt (by omega) (by omega)) ⟨s + 1, yr_shI hs (by omega) (by omega) ha hb h1 (fun hn => ih (p + 1) (by omega) (fun i j q1 q2 q3 q4 => ?_)) s 0 (by omega) (fun j q1 q2 => absurd q1 (by omega))⟩
    by_cases z : i = p + 1
    · rw [z]; exact hn j q3 q4
    · exact hr i j q1 (by omega) q3 q4
theorem yr_share {post : Int32 → Prop} {fc : Int32} (hs : s ≤ 12) (ha : a * s + s < 260) (hb : b * s + s < 260) (h1 : bw_sh s R a b → post 1) (h0 : ¬ bw_sh s R a b → post 0) : wpY_share post (fb, nI s, fc, fl, m, cl, t, B, R) (nI a) (nI b) :=
  ⟨s + 1, yr_shL hs ha hb h1 h0 s 0 (by omega) (fun i j q1 q2 _ _ => absurd q1 (by omega))⟩
end
noncomputable def bw_S (s : Nat) (R : Nat → Int32) (a b : Nat) : Nat := @ite Nat (bw_sh s R a b) (Classical.propDecidable _) 1 0
theorem bw_S1 {s : Nat} {R : Nat → Int32} {a b : Nat} (h : bw_sh s R a b) : bw_S s R a b = 1 := by unfold bw_S; exact if_pos h
theorem bw_S0 {s : Nat} {R : Nat → Int32} {a b : Nat} (h : ¬ bw_sh s R a b) : bw_S s R a b = 0 := by unfold bw_S; exact if_neg h
theorem bw_shC {s e : Nat} {R F : Nat → Int32} (h : ∀ q, q ≤ e → R q = F q) {a b : Nat} (ha : a * s + s ≤ e) (hb : b * s + s ≤ e) : bw_sh s R a b ↔ bw_sh s F a b := by
  constructor
  · intro ⟨i, j, q1, q2, q3, q4, z⟩
    rw [h _ (by omega), h _ (by omega)] at z
    exact ⟨i, j, q1, q2, q3, q4, z⟩
  · intro ⟨i, j, q1, q2, q3, q4, z⟩
    rw [← h _ (by omega), ← h _ (by omega)] at z
    exact ⟨i, j, q1, q2, q3, q4, z⟩
def bw_sm (f : Nat → Nat) : Nat → Nat
  | 0 => 0
  | n + 1 => bw_sm f n + f n
theorem bw_smC {f g : Nat → Nat} : ∀ n, (∀ i, i < n → f i = g i) → bw_sm f n = bw_sm g n := by
  intro n
  induction n with
  | zero => intro _; rfl
  | succ n ih => intro h; rw [bw_sm, bw_sm, ih (fun i hi => h i (by omega)), h n (by omega)]
theorem bw_smA (f g : Nat → Nat) : ∀ n, bw_sm (fun i => f i + g i) n = bw_sm f n + bw_sm g n := by
  intro n
  induction n with
  | zero => rfl
  | succ n ih => rw [bw_sm, bw_sm, bw_sm, ih]; omega
theorem bw_sm0 {f : Nat → Nat} : ∀ n, (∀ i, i < n → f i = 0) → bw_sm f n = 0 := by
  intro n
  induction n with
  | zero => intro _; rfl
  | succ n ih => intro h; rw [bw_sm, ih (fun i hi => h i (by omega)), h n (by omega)]
theorem bw_swap (S : Nat → Nat → Nat) : ∀ c, bw_sm (fun b => bw_sm (fun a => S a b) b) c = bw_sm (fun a => bw_sm (fun b => if a < b then S a b else 0) c) c := by
  intro c
  induction c with
  | zero => rfl
  | succ c ih =>
    have e1 : bw_sm (fun a => bw_sm (fun b => if a < b then S a b else 0) (c + 1)) (c + 1) = bw_sm (fun a => bw_sm (fun b => if a < b then S a b else 0) c) (c + 1) + bw_sm (fun a => if a < c then S a c else 0) (c + 1) :=
      bw_smA (fun a => bw_sm (fun b => if a < b then S a b else 0) c) (fun a => if a < c then S a c else 0) (c + 1)
    have e2 : bw_sm (fun b => if c < b then S c b else 0) c = 0 := bw_sm0 c (fun i hi => if_neg (by omega))
    have e3 : bw_sm (fun a => if a < c then S a c else 0) c = bw_sm (fun a => S a c) c := bw_smC c (fun i hi => if_pos hi)
    rw [e1]
    show bw_sm (fun b => bw_sm (fun a => S a b) b) c + bw_sm (fun a => S a c) c = bw_sm (fun a => bw_sm (fun b => if a < b then S a b else 0) c) c + bw_sm (fun b => if c < b then S c b else 0) c + (bw_sm (fun a => if a < c then S a c else 0) c + (if c < c then S c c else 0))
    rw [ih, e2, e3, if_neg (Nat.lt_irrefl c)]
    omega
end
section
/-! the pairs of leads, counted by both sides; the order of a lead -/
section
variable {s c : Nat} {fb : Int32} {m cl t R B F : Nat → Int32}
theorem xr_fpI {post : Int32 → SX → Prop} {J : Int32 → Int32 → Prop} {b acc : Nat} (hs : s ≤ 12) (hc : c ≤ 20) (hb : b < c) (hR : ∀ q, q ≤ c * s → R q = F q) (hJ : J (nI (acc + bw_sm (fun a => bw_S s F a b) b)) (nI (b + 1))) : ∀ k p, p + k = b → wX_falsePairs_18 post J (nI b) fb (nI s) (nI c) m cl t R B (k + 1) (nI (acc + bw_sm (fun a => bw_S s F a b) p)) (nI p) := by
  intro k
  have hcs : c * s ≤ 20 * 12 := Nat.mul_le_mul hc hs
  have hbs : (b + 1) * s ≤ c * s := Nat.mul_le_mul (by omega) (Nat.le_refl _)
  rw [Nat.add_mul, Nat.one_mul] at hbs
  induction k with
  | zero =>
    intro p h
    obtain rfl : p = b := by omega
    exact br_t (nI_le (by omega) (by omega)) (nm_r (nI_1 _) hJ)
  | succ k ih =>
    intro p h
    have hps : (p + 1) * s ≤ c * s := Nat.mul_le_mul (by omega) (Nat.le_refl _)
    rw [Nat.add_mul, Nat.one_mul] at hps
    have hi := ih (p + 1) (by omega)
    rw [bw_sm] at hi
    refine br_f (nI_ge (by omega) (by omega)) (xr_share hs (by omega) (by omega) (fun h1 => br_f bw_10 (nm_r (nI_1 _) (nm_r (nI_1 _) ?_))) (fun h0 => br_t rfl (nm_r (nI_1 _) ?_)))
    · rw [bw_S1 ((bw_shC hR hps hbs).mp h1)] at hi; exact hi
    · rw [bw_S0 (fun z => h0 ((bw_shC hR hps hbs).mpr z))] at hi; exact hi
theorem xr_fpL {post : Int32 → SX → Prop} (hs : s ≤ 12) (hc : c ≤ 20) (hR : ∀ q, q ≤ c * s → R q = F q) (hp : post (nI (bw_sm (fun b => bw_sm (fun a => bw_S s F a b) b) c)) (fb, nI s, nI c, m, cl, t, R, B)) : ∀ k p, p + k = c → wX_falsePairs_8 post fb (nI s) (nI c) m cl t R B (k + 1) (nI (bw_sm (fun b => bw_sm (fun a => bw_S s F a b) b) p)) (nI p) := by
  intro k
  induction k with
  | zero =>
    intro p h
    obtain rfl : p = c := by omega
    exact br_t (nI_le (by omega) (by omega)) hp
  | succ k ih =>
    intro p h
    exact br_f (nI_ge (by omega) (by omega)) ⟨p + 1, xr_fpI hs hc (by omega) hR (ih (p + 1) (by omega)) p 0 (by omega)⟩
theorem yr_fpI {post : Int32 → SY → Prop} {J : Int32 → Int32 → Prop} {fl : Int32} {a acc : Nat} (hs : s ≤ 12) (hc : c ≤ 20) (ha : a < c) (hR : ∀ q, q ≤ c * s → R q = F q) (hJ : J (nI (acc + bw_sm (fun b => if a < b then bw_S s F a b else 0) c)) (nI (a + 1))) : ∀ k p, p + k = c → a < p → wY_falsePairs_20 post J (nI a) fb (nI s) (nI c) fl m cl t B R (k + 1) (nI (acc + bw_sm (fun b => if a < b then bw_S s F a b else 0) p)) (nI p) := by
  intro k
  have hcs : c * s ≤ 20 * 12 := Nat.mul_le_mul hc hs
  have has : (a + 1) * s ≤ c * s := Nat.mul_le_mul (by omega) (Nat.le_refl _)
  rw [Nat.add_mul, Nat.one_mul] at has
  induction k with
  | zero =>
    intro p h _
    obtain rfl : p = c := by omega
    exact br_t (nI_le (by omega) (by omega)) (nm_r (nI_1 _) hJ)
  | succ k ih =>
    intro p h hap
    have hps : (p + 1) * s ≤ c * s := Nat.mul_le_mul (by omega) (Nat.le_refl _)
    rw [Nat.add_mul, Nat.one_mul] at hps
    have hi := ih (p + 1) (by omega) (by omega)
    rw [bw_sm, if_pos hap] at hi
    refine br_f (nI_ge (by omega) (by omega)) (yr_share hs (by omega) (by omega) (fun h1 => br_f bw_10 (nm_r (nI_1 _) (nm_r (nI_1 _) ?_))) (fun h0 => br_t rfl (nm_r (nI_1 _) ?_)))
    · rw [bw_S1 ((bw_shC hR has hps).mp h1)] at hi; exact hi
    · rw [bw_S0 (fun z => h0 ((bw_shC hR has hps).mpr z))] at hi; exact hi
theorem yr_fpL {post : Int32 → SY → Prop} {fl : Int32} (hs : s ≤ 12) (hc : c ≤ 20) (hR : ∀ q, q ≤ c * s → R q = F q) (hp : post (nI (bw_sm (fun a => bw_sm (fun b => if a < b then bw_S s F a b else 0) c) c)) (fb, nI s, nI c, fl, m, cl, t, B, R)) : ∀ k p, p + k = c → wY_falsePairs_8 post fb (nI s) (nI c) fl m cl t B R (k + 1) (nI (bw_sm (fun a => bw_sm (fun b => if a < b then bw_S s F a b else 0) c) p)) (nI p) := by
  intro k
  induction k with
  | zero =>
    intro p h
    obtain rfl : p = c := by omega
    exact br_t (nI_le (by omega) (by omega)) hp
  | succ k ih =>
    intro p h
    refine br_f (nI_ge (by omega) (by omega)) (nm_r (nI_1 _) ?_)
    have hi := yr_fpI (post := post) (fb := fb) (m := m) (cl := cl) (t := t) (B := B) (fl := fl) (a := p) (acc := bw_sm (fun a => bw_sm (fun b => if a < b then bw_S s F a b else 0) c) p) hs hc (by omega) hR (ih (p + 1) (by omega)) k (p + 1) (by omega) (by omega)
    rw [bw_sm0 (f := fun b => if p < b then bw_S s F p b else 0) (p + 1) (fun i hi => if_neg (by omega))] at hi
    exact ⟨k + 1, hi⟩
end
/-! every map of at most six places onto themselves is back after sixty turns -/
def bw_it (f : Nat → Nat) : Nat → Nat → Nat
  | 0, p => p
  | n + 1, p => f (bw_it f n p)
theorem bw_itA (f : Nat → Nat) (a : Nat) : ∀ b p, bw_it f (a + b) p = bw_it f b (bw_it f a p) := by
  intro b
  induction b with
  | zero => intro p; rfl
  | succ b ih => intro p; show f (bw_it f (a + b) p) = f (bw_it f b (bw_it f a p)); rw [ih]
theorem bw_itM {f : Nat → Nat} {d p : Nat} (h : bw_it f d p = p) : ∀ k, bw_it f (d * k) p = p := by
  intro k
  induction k with
  | zero => rfl
  | succ k ih => rw [Nat.mul_succ, bw_itA, ih, h]
theorem bw_itL {f : Nat → Nat} {N : Nat} (h : ∀ p, p < N → f p < N) {p : Nat} (hp : p < N) : ∀ n, bw_it f n p < N := by
  intro n
  induction n with
  | zero => exact hp
  | succ n ih => exact h _ ih
theorem bw_itB {f : Nat → Nat} {N : Nat} (h : ∀ p, p < N → f p < N) (hi : ∀ p q, p < N → q < N → f p = f q → p = q) {p : Nat} (hp : p < N) : ∀ a b, bw_it f a p = bw_it f (a + b) p → bw_it f b p = p := by
  intro a
  induction a with
  | zero => intro b e; rw [Nat.zero_add] at e; exact e.symm
  | succ a ih =>
    intro b e
    refine ih b (hi _ _ (bw_itL h hp a) (bw_itL h hp (a + b)) ?_)
    rw [show a + 1 + b = a + b + 1 from by omega] at e
    exact e
/-- n + 1 numbers below n: two are the same -/
theorem bw_pig : ∀ (n : Nat) (x : Nat → Nat), (∀ i, i ≤ n → x i < n) → ∃ i j, i < j ∧ j ≤ n ∧ x i = x j := by
  intro n
  induction n with
  | zero => intro x h; exact absurd (h 0 (Nat.le_refl _)) (by omega)
  | succ n ih =>
    intro x h
    by_cases hz : ∃ i, i ≤ n ∧ x i = x (n + 1)
    · obtain ⟨i, hi, e⟩ := hz
      exact ⟨i, n + 1, by omega, by omega, e⟩
    · have hne : ∀ i, i ≤ n → x i ≠ x (n + 1) := fun i hi e => hz ⟨i, hi, e⟩
      have hl := h (n + 1) (by omega)
      obtain ⟨i, j, h1, h2, e⟩ := ih (fun i => if x i = n then x (n + 1) else x i) (fun i hi => by
        have a := h i (by omega)
        have b := hne i hi
        show (if x i = n then x (n + 1) else x i) < n
        by_cases z : x i = n
        · rw [if_pos z]; omega
        · rw [if_neg z]; omega)
      have hi1 := hne i (by omega)
      have hj1 := hne j h2
      refine ⟨i, j, h1, by omega, ?_⟩
      have e' : (if x i = n then x (n + 1) else x i) = (if x j = n then x (n + 1) else x j) := e
      by_cases z1 : x i = n
      · by_cases z2 : x j = n
        · rw [z1, z2]
        · rw [if_pos z1, if_neg z2] at e'; exact absurd e'.symm hj1
      · by_cases z2 : x j = n
        · rw [if_neg z1, if_pos z2] at e'; exact absurd e' hi1
        · rw [if_neg z1, if_neg z2] at e'; exact e'
theorem bw_it60 {f : Nat → Nat} {N : Nat} (hN : N ≤ 6) (h : ∀ p, p < N → f p < N) (hi : ∀ p q, p < N → q < N → f p = f q → p = q) {p : Nat} (hp : p < N) : bw_it f 60 p = p := by
  obtain ⟨a, b, h1, h2, e⟩ := bw_pig N (fun n => bw_it f n p) (fun i _ => bw_itL h hp i)
  have e2 : bw_it f (b - a) p = p := bw_itB h hi hp a (b - a) (by rw [show a + (b - a) = b from by omega]; exact e)
  rcases (by omega : b - a = 1 ∨ b - a = 2 ∨ b - a = 3 ∨ b - a = 4 ∨ b - a = 5 ∨ b - a = 6) with z | z | z | z | z | z
  · rw [z] at e2; exact bw_itM e2 60
  · rw [z] at e2; exact bw_itM e2 30
  · rw [z] at e2; exact bw_itM e2 20
  · rw [z] at e2; exact bw_itM e2 15
  · rw [z] at e2; exact bw_itM e2 12
  · rw [z] at e2; exact bw_itM e2 10
section
variable {N s x : Nat} {m cl : Nat → Int32}
/-- leads with one call: each does the same to the places -/
theorem bw_gsL (i : Nat) : ∀ j, j ≤ s → ∀ q, bw_gs N s m cl (fun _ => x) (i * s + j) q = bw_gs N s m cl (fun _ => x) (i * s) (bw_gs N s m cl (fun _ => x) j q) := by
  intro j
  induction j with
  | zero => intro _ q; rfl
  | succ j ih =>
    intro h q
    have e := bw_gsS (N := N) (m := m) (cl := cl) (tc := fun _ => x) (i := 0) (show j < s by omega)
    rw [Nat.zero_mul, Nat.zero_add, Nat.zero_add] at e
    rw [bw_gsS (by omega), e]
    exact ih (by omega) _
theorem bw_gsI : ∀ i q, bw_gs N s m cl (fun _ => x) (i * s) q = bw_it (bw_gs N s m cl (fun _ => x) s) i q := by
  intro i
  induction i with
  | zero => intro q; rw [Nat.zero_mul]; rfl
  | succ i ih =>
    intro q
    rw [Nat.add_mul, Nat.one_mul, bw_gsL i s (Nat.le_refl _), ih, Nat.add_comm i 1, bw_itA]
    rfl
theorem bw_back (H : bw_St N s m cl) (hx : x < 3) : bw_cd (bw_gs N s m cl (fun _ => x) (60 * s)) N = bw_cd (fun q => q) N := by
  have hP := bw_gsP (tc := fun _ => x) H (fun _ => hx) s
  refine bw_cdC N (fun q hq => ?_)
  rw [bw_gsI]
  exact bw_it60 H.2.1 (bw_PmL hP) (fun p q h1 h2 e => bw_PmInj hP h1 h2 e) hq
/-- the first time that rounds come back -/
theorem bw_first (H : bw_St N s m cl) (hx : x < 3) : ∃ K, 1 ≤ K ∧ K ≤ 60 ∧ bw_cd (bw_gs N s m cl (fun _ => x) (K * s)) N = bw_cd (fun q => q) N ∧ ∀ j, 1 ≤ j → j < K → bw_cd (bw_gs N s m cl (fun _ => x) (j * s)) N ≠ bw_cd (fun q => q) N := by
  have key : ∀ n, 1 ≤ n → bw_cd (bw_gs N s m cl (fun _ => x) (n * s)) N = bw_cd (fun q => q) N → ∃ K, 1 ≤ K ∧ K ≤ n ∧ bw_cd (bw_gs N s m cl (fun _ => x) (K * s)) N = bw_cd (fun q => q) N ∧ ∀ j, 1 ≤ j → j < K → bw_cd (bw_gs N s m cl (fun _ => x) (j * s)) N ≠ bw_cd (fun q => q) N := by
    intro n
    induction n using Nat.strongRecOn with
    | ind n ih =>
      intro h1 e
      by_cases hz : ∃ j, 1 ≤ j ∧ j < n ∧ bw_cd (bw_gs N s m cl (fun _ => x) (j * s)) N = bw_cd (fun q => q) N
      · obtain ⟨j, a, b, e2⟩ := hz
        obtain ⟨K, q1, q2, q3, q4⟩ := ih j b a e2
        exact ⟨K, q1, by omega, q3, q4⟩
      · exact ⟨n, h1, Nat.le_refl _, e, fun j a b z => hz ⟨j, a, b, z⟩⟩
  exact key 60 (by decide) (bw_back H hx)
end
end
section
/-! the relation; the calls that change the state -/
def i_Rel (_ : Nat) (u : SX) (v : SY) : Prop := ∃ (N s c : Nat) (m cl t RX BX BY RY : Nat → Int32) (l : Int32), bw_St N s m cl ∧ c ≤ 20 ∧ (∀ i, i < c → ∃ x : Nat, x < 3 ∧ t i = nI x) ∧ u = (nI N, nI s, nI c, m, cl, t, RX, BX) ∧ v = (nI N, nI s, nI c, l, m, cl, t, BY, RY)
theorem bw_mk {k N s c : Nat} {m cl t RX BX BY RY : Nat → Int32} {l : Int32} (H : bw_St N s m cl) (hc : c ≤ 20) (ht : ∀ i, i < c → ∃ x : Nat, x < 3 ∧ t i = nI x) : i_Rel k (nI N, nI s, nI c, m, cl, t, RX, BX) (nI N, nI s, nI c, l, m, cl, t, BY, RY) :=
  ⟨N, s, c, m, cl, t, RX, BX, BY, RY, l, H, hc, ht, rfl, rfl⟩
theorem i_up {k : Nat} {u : SX} {v : SY} (h : i_Rel k u v) : i_Rel (k + 3) u v := h
theorem bw_p64 {N : Nat} (hN : N ≤ 6) : 2 ^ N ≤ 64 := Nat.pow_le_pow_right (n := 2) (j := 6) (by decide) hN
theorem bw_pw {N : Nat} (hN : N ≤ 6) : (1 : Int32) <<< (nI N &&& 31) = nI (2 ^ N) := by
  have h := bw_p64 hN
  have e := pk_shlN (n := 1) (nI N &&& 31) N (s_l N (by omega)) (by omega)
  rw [Nat.one_mul] at e
  exact e
section
variable {N : Nat} {fs fc fl : Int32} {m cl t R B : Nat → Int32}
theorem xr_icL {post : Int32 → Prop} {j : Nat} (hN : N ≤ 6) (hj : j < 64) : ∀ k p, N ≤ k + p → p ≤ 6 → (bw_ck N j k p = true → post 1) → (bw_ck N j k p = false → post 0) → wX_isChange_18 post (nI j) (nI N) fc fl m cl t R B (k + 1) (nI p) := by
  intro k
  induction k with
  | zero =>
    intro p h hp6 h1 h0
    exact br_t (nI_le (by omega) (by omega)) (h1 rfl)
  | succ k ih =>
    intro p h hp6 h1 h0
    by_cases hn : N ≤ p
    · exact br_t (nI_le (by omega) (by omega)) (h1 (yr_ckO hn))
    · refine br_f (nI_ge (by omega) (by omega)) ?_
      cases hb : bw_b j p with
      | true =>
        rw [yr_ckT (by omega) hb] at h1 h0
        exact br_t (bw_bt (by omega) (by omega) hb) (br_f bw_10 (nm_r (nI_1 p) (ih (p + 1) (by omega) (by omega) h1 h0)))
      | false =>
        refine br_f (by rw [bw_bf (by omega) (by omega) hb]; exact bw_01) (br_t rfl (nm_r (nI_1 p) ?_))
        by_cases h2 : p + 1 < N
        · refine br_f (nI_ge (by omega) (by omega)) ?_
          cases hb1 : bw_b j (p + 1) with
          | true => exact br_t (bw_bt (by omega) (by omega) hb1) (br_f bw_10 (h0 (yr_ckN h2 hb hb1)))
          | false =>
            rw [yr_ckF h2 hb hb1] at h1 h0
            exact br_f (by rw [bw_bf (by omega) (by omega) hb1]; exact bw_01) (br_t rfl (nm_r (nI_1 (p + 1)) (ih (p + 2) (by omega) (by omega) h1 h0)))
        · exact br_t (nI_le (by omega) (by omega)) (h0 (yr_ckE (by omega) (by omega) hb))
theorem yr_icL {post : Int32 → Prop} {j : Nat} (hN : N ≤ 6) (hj : j < 64) : ∀ k p, N ≤ k + p → p ≤ 6 → (bw_ck N j k p = true → post 1) → (bw_ck N j k p = false → post 0) → wY_isChange_18 post (nI j) (nI N) fs fc fl m cl t B R (k + 1) (nI p) := by
  intro k
  induction k with
  | zero =>
    intro p h hp6 h1 h0
    exact br_t (nI_le (by omega) (by omega)) (h1 rfl)
  | succ k ih =>
    intro p h hp6 h1 h0
    by_cases hn : N ≤ p
    · exact br_t (nI_le (by omega) (by omega)) (h1 (yr_ckO hn))
    · refine br_f (nI_ge (by omega) (by omega)) ?_
      cases hb : bw_b j p with
      | true =>
        rw [yr_ckT (by omega) hb] at h1 h0
        exact br_t (bw_bt (by omega) (by omega) hb) (nm_r (nI_1 p) (ih (p + 1) (by omega) (by omega) h1 h0))
      | false =>
        refine br_f (by rw [bw_bf (by omega) (by omega) hb]; exact bw_01) ?_
        rw [nI_1 p]
        by_cases h2 : p + 1 < N
        · refine br_f (nI_ge (by omega) (by omega)) ?_
          cases hb1 : bw_b j (p + 1) with
          | true => exact br_f (by rw [bw_bt (by omega) (by omega) hb1]; exact bw_10) (h0 (yr_ckN h2 hb hb1))
          | false =>
            rw [yr_ckF h2 hb hb1] at h1 h0
            exact br_t (bw_bf (by omega) (by omega) hb1) (nm_r (nI_add p 2) (ih (p + 2) (by omega) (by omega) h1 h0))
        · exact br_t (nI_le (by omega) (by omega)) (h0 (yr_ckE (by omega) (by omega) hb))
theorem bw_nCh0 {x : Int32} (hN : N ≤ 6) (h : x < 0) : ¬ bw_Ch N x := by
  intro ⟨j, hj, e, _⟩
  have := bw_p6 hN hj
  rw [e] at h
  exact nI_pos (by omega) h
theorem bw_nCh1 {j : Nat} (hN : N ≤ 6) (hj : j < 2 ^ 31) (h : 2 ^ N ≤ j) : ¬ bw_Ch N (nI j) := by
  intro ⟨i, hi, e, _⟩
  have := bw_p6 hN hi
  rw [nI_eq hj (by omega)] at e
  omega
theorem bw_nCh2 {j : Nat} (hN : N ≤ 6) (hj : j < 2 ^ 31) (h : bw_ck N j 7 0 = false) : ¬ bw_Ch N (nI j) := by
  intro ⟨i, hi, e, hc⟩
  have := bw_p6 hN hi
  rw [nI_eq hj (by omega)] at e
  subst e
  rw [h] at hc
  exact absurd hc (by decide)
theorem xr_isC {post : Int32 → Prop} {x : Int32} (hN : N ≤ 6) (h1 : bw_Ch N x → post 1) (h0 : ¬ bw_Ch N x → post 0) : wpX_isChange post (nI N, fc, fl, m, cl, t, R, B) x := by
  by_cases hx : x < 0
  · exact br_t hx (h0 (bw_nCh0 hN hx))
  · obtain ⟨j, hj, rfl⟩ := nI_of hx
    have h64 := bw_p64 hN
    refine br_f hx ?_
    rw [bw_pw hN]
    exact pk_lt j (2 ^ N) (fun h => ⟨8, xr_icL hN (by omega) 7 0 (by omega) (by omega) (fun e => h1 ⟨j, h, rfl, e⟩) (fun e => h0 (bw_nCh2 hN hj e))⟩) (fun h => h0 (bw_nCh1 hN hj h))
theorem yr_isC {post : Int32 → Prop} {x : Int32} (hN : N ≤ 6) (h1 : bw_Ch N x → post 1) (h0 : ¬ bw_Ch N x → post 0) : wpY_isChange post (nI N, fs, fc, fl, m, cl, t, B, R) x := by
  by_cases hx : x < 0
  · exact br_t hx (h0 (bw_nCh0 hN hx))
  · obtain ⟨j, hj, rfl⟩ := nI_of hx
    have h64 := bw_p64 hN
    refine br_f hx ?_
    rw [bw_pw hN]
    exact pk_lt j (2 ^ N) (fun h => ⟨8, yr_icL hN (by omega) 7 0 (by omega) (by omega) (fun e => h1 ⟨j, h, rfl, e⟩) (fun e => h0 (bw_nCh2 hN hj e))⟩) (fun h => h0 (bw_nCh1 hN hj h))
end
theorem bw_all : ∀ N, N < 7 → bw_ck N (2 ^ N - 1) 7 0 = true := by decide +kernel
theorem bw_new {N : Nat} (h3 : 3 ≤ N) (hN : N ≤ 6) : bw_St N 1 (upd (fun _ => 0) 0 (nI (2 ^ N - 1))) (upd (upd (fun _ => 0) 1 (nI (2 ^ N - 1))) 2 (nI (2 ^ N - 1))) := by
  have hC : bw_Ch N (nI (2 ^ N - 1)) := ⟨2 ^ N - 1, by have := Nat.two_pow_pos N; omega, rfl, bw_all N (by omega)⟩
  refine ⟨h3, hN, by omega, by omega, fun i hi => ?_, ?_, ?_⟩
  · obtain rfl : i = 0 := by omega
    rw [pk_us]; exact hC
  · rw [pk_un (by omega), pk_us]; exact hC
  · rw [pk_us]; exact hC
theorem bw_A {N : Nat} (hN : N ≤ 6) : ((1 : Int32) <<< (nI N &&& 31)) - 1 = nI (2 ^ N - 1) := by
  rw [bw_pw hN]
  exact pk_sub (b := 1) (Nat.two_pow_pos N)
theorem xr_new {N : Nat} {post : SX → Prop} (hN : N ≤ 6) (hp : post (nI N, nI 1, nI 0, upd (fun _ => 0) 0 (nI (2 ^ N - 1)), upd (upd (fun _ => 0) 1 (nI (2 ^ N - 1))) 2 (nI (2 ^ N - 1)), fun _ => 0, fun _ => 0, fun _ => 0)) : wX_init_71 post (nI N) 0 0 (fun _ => 0) (fun _ => 0) (fun _ => 0) (fun _ => 0) (fun _ => 0) :=
  nm_r (bw_A hN) (nm_e (nm_e (nm_e hp)))
theorem yr_new {N : Nat} {post : SY → Prop} (hN : N ≤ 6) (hp : post (nI N, nI 1, nI 0, 0, upd (fun _ => 0) 0 (nI (2 ^ N - 1)), upd (upd (fun _ => 0) 1 (nI (2 ^ N - 1))) 2 (nI (2 ^ N - 1)), fun _ => 0, fun _ => 0, fun _ => 0)) : wY_init_71 post (nI N) 0 1 0 0 (fun _ => 0) (fun _ => 0) (fun _ => 0) (fun _ => 0) (fun _ => 0) := by
  unfold wY_init_71
  rw [bw_A hN]
  exact nm_e (nm_e (nm_e hp))
theorem bw_newR {N : Nat} (h3 : 3 ≤ N) (hN : N ≤ 6) : i_Rel 1 (nI N, nI 1, nI 0, upd (fun _ => 0) 0 (nI (2 ^ N - 1)), upd (upd (fun _ => 0) 1 (nI (2 ^ N - 1))) 2 (nI (2 ^ N - 1)), fun _ => 0, fun _ => 0, fun _ => 0) (nI N, nI 1, nI 0, 0, upd (fun _ => 0) 0 (nI (2 ^ N - 1)), upd (upd (fun _ => 0) 1 (nI (2 ^ N - 1))) 2 (nI (2 ^ N - 1)), fun _ => 0, fun _ => 0, fun _ => 0) :=
  bw_mk (bw_new h3 hN) (by omega) (fun i hi => absurd hi (Nat.not_lt_zero _))
theorem i_vc0 (k0 : Int32) : wpX_init (fun u => wpY_init (fun v => i_Rel 1 u v) k0) k0 := by
  by_cases h3 : (3 : Int32) ≤ k0
  · by_cases h6 : k0 ≤ 6
    · have h0 : ¬ k0 < 0 := by
        intro z
        exact absurd (Int32.lt_of_le_of_lt h3 z) (by decide)
      obtain ⟨j, hj, rfl⟩ := nI_of2 (M := 6) (n := 6) (by decide) h0 h6
      have hj3 : 3 ≤ j := (nI_leI (a := 3) (by decide) (by omega)).mp h3
      exact br_t h3 (br_t h6 (xr_new hj (br_t h3 (br_t h6 (yr_new hj (bw_newR hj3 hj))))))
    · exact br_t h3 (br_f h6 (xr_new (N := 6) (by decide) (br_t h3 (br_f h6 (yr_new (N := 6) (by decide) (bw_newR (by decide) (by decide)))))))
  · have h6 : k0 ≤ 6 := Int32.le_of_lt (Int32.lt_trans (Int32.not_le.mp h3) (by decide))
    exact br_f h3 (br_t h6 (xr_new (N := 3) (by decide) (br_f h3 (yr_new (N := 3) (by decide) (bw_newR (by decide) (by decide))))))
theorem i_vc_change {k : Nat} {u : SX} {v : SY} (I : i_Rel k u v) (hk : k + 3 ≤ 1537) (v1 : Int32) : wpX_change (fun r u' => wpY_change (fun r' v' => r' = r ∧ i_Rel (k + 3) u' v') v v1) u v1 := by
  obtain ⟨N, s, c, m, cl, t, RX, BX, BY, RY, l, H, hc, ht, rfl, rfl⟩ := I
  have h6 := H.2.1
  have h12 := H.2.2.2.1
  unfold wpX_change wpY_change
  dsimp only
  refine xr_isC h6 (fun h1 => br_f bw_10 ?_) (fun h0 => br_t rfl ?_)
  · refine pk_lt s 12 (fun h => ⟨vp_in_nI h (by omega), nm_r (e' := upd m s v1) (by rw [nI_clamp (by omega)]) (nm_r (nI_1 s) ?_)⟩) (fun h => ?_)
    · refine yr_isC h6 (fun _ => br_f bw_10 (br_f ?_ ⟨vp_in_nI h (by omega), nm_r (e' := upd m s v1) (by rw [nI_clamp (by omega)]) (nm_r (nI_1 s) ⟨rfl, bw_mk ?_ hc ht⟩)⟩)) (fun h0 => absurd h1 h0)
      · intro z
        exact absurd ((nI_eq (b := 12) (by omega) (by decide)).mp z) (by omega)
      · refine ⟨H.1, H.2.1, by omega, by omega, fun i hi => ?_, H.2.2.2.2.2⟩
        by_cases e : i = s
        · subst e; rw [pk_us]; exact h1
        · rw [pk_un e]; exact H.2.2.2.2.1 i (by omega)
    · obtain rfl : s = 12 := by omega
      exact yr_isC h6 (fun _ => br_f bw_10 (br_t rfl ⟨rfl, bw_mk H hc ht⟩)) (fun h0 => absurd h1 h0)
  · exact yr_isC h6 (fun h1 => absurd h1 h0) (fun _ => br_t rfl ⟨rfl, bw_mk H hc ht⟩)
theorem i_vc_call {k : Nat} {u : SX} {v : SY} (I : i_Rel k u v) (hk : k + 3 ≤ 1537) (v1 : Int32) (v2 : Int32) : wpX_call (fun r u' => wpY_call (fun r' v' => r' = r ∧ i_Rel (k + 3) u' v') v v1 v2) u v1 v2 := by
  obtain ⟨N, s, c, m, cl, t, RX, BX, BY, RY, l, H, hc, ht, rfl, rfl⟩ := I
  have h6 := H.2.1
  by_cases hx : v1 < 1
  · exact br_t hx (br_t hx ⟨rfl, bw_mk H hc ht⟩)
  · have hx0 : ¬ v1 < 0 := fun z => hx (Int32.lt_trans z (by decide))
    obtain ⟨y, hy, rfl⟩ := nI_of hx0
    refine br_f hx (pk_le 3 y (fun h => br_f hx (br_t (nI_lt (a := 2) (by omega) hy) ⟨rfl, bw_mk H hc ht⟩)) (fun h => ?_))
    have hy1 : 1 ≤ y := by
      refine Nat.pos_of_ne_zero (fun z => hx ?_)
      subst z
      decide
    have hi : vp_in (nI y) 3 := vp_in_nI h (by decide)
    have h2 : ¬ (2 : Int32) < nI y := nI_nlt (b := y) (a := 2) (by omega) (by decide)
    refine xr_isC h6 (fun h1 => br_f bw_10 ⟨hi, nm_r (e' := cl y) (by rw [nI_clamp hy]) ⟨hi, nm_r (e' := upd cl y v2) (by rw [nI_clamp hy]) ?_⟩⟩) (fun h0 => br_t rfl ?_)
    · refine br_f hx (br_f h2 (yr_isC h6 (fun _ => br_f bw_10 ⟨hi, nm_r (e' := cl y) (by rw [nI_clamp hy]) ⟨hi, nm_r (e' := upd cl y v2) (by rw [nI_clamp hy]) ⟨rfl, bw_mk ?_ hc ht⟩⟩⟩) (fun h0 => absurd h1 h0)))
      refine ⟨H.1, H.2.1, H.2.2.1, H.2.2.2.1, H.2.2.2.2.1, ?_, ?_⟩
      · by_cases e : 1 = y
        · subst e; rw [pk_us]; exact h1
        · rw [pk_un e]; exact H.2.2.2.2.2.1
      · by_cases e : 2 = y
        · subst e; rw [pk_us]; exact h1
        · rw [pk_un e]; exact H.2.2.2.2.2.2
    · exact br_f hx (br_f h2 (yr_isC h6 (fun h1 => absurd h1 h0) (fun _ => br_t rfl ⟨rfl, bw_mk H hc ht⟩)))
end
section
/-! drop, lead, back, turn, last -/
def bw_dr (m : Nat → Int32) : Nat → (Nat → Int32)
  | 0 => m
  | i + 1 => upd (bw_dr m i) i (bw_dr m i (i + 1))
theorem bw_drV (m : Nat → Int32) : ∀ i q, bw_dr m i q = if q < i then m (q + 1) else m q := by
  intro i
  induction i with
  | zero => intro q; rw [if_neg (Nat.not_lt_zero _)]; rfl
  | succ i ih =>
    intro q
    rw [bw_dr]
    by_cases e : q = i
    · subst e
      rw [pk_us, ih, if_neg (by omega), if_pos (by omega)]
    · rw [pk_un e, ih]
      by_cases h : q < i
      · rw [if_pos h, if_pos (by omega)]
      · rw [if_neg h, if_neg (by omega)]
section
variable {s : Nat} {x fb fc fl : Int32} {m cl t R B : Nat → Int32}
theorem xr_drL {post : Int32 → SX → Prop} (hs : s ≤ 12) (hp : post x (fb, nI (s - 1), fl, bw_dr m (s - 1), cl, t, R, B)) : ∀ k i, i + 1 + k = s → wX_drop_20 post x fb (nI s) fl (k + 1) (nI (i + 1)) (bw_dr m i) cl t R B := by
  intro k
  induction k with
  | zero =>
    intro i h
    obtain rfl : s = i + 1 := by omega
    exact br_t (nI_le (by omega) (by omega)) (nm_r (nI_pred i) hp)
  | succ k ih =>
    intro i h
    refine br_f (nI_ge (by omega) (by omega)) ⟨vp_in_nI (by omega) (by omega), ?_⟩
    rw [nI_pred]
    refine ⟨vp_in_nI (by omega) (by omega), nm_r (e' := bw_dr m (i + 1)) ?_ (nm_r (nI_1 _) (ih (i + 1) (by omega)))⟩
    rw [nI_clamp (by omega), nI_clamp (by omega)]
    rfl
theorem yr_drL {post : Int32 → SY → Prop} (hs : s < 12) (hp : post x (fb, nI s, fc, fl, bw_dr m s, cl, t, B, R)) : ∀ k i, i + k = s → wY_drop_30 post x fb (nI s) fc fl (k + 1) (nI i) (bw_dr m i) cl t B R := by
  intro k
  induction k with
  | zero =>
    intro i h
    obtain rfl : s = i := by omega
    exact br_t (nI_le (by omega) (by omega)) hp
  | succ k ih =>
    intro i h
    refine br_f (nI_ge (by omega) (by omega)) ?_
    rw [nI_1 i]
    refine ⟨vp_in_nI (by omega) (by omega), vp_in_nI (by omega) (by omega), nm_r (e' := bw_dr m (i + 1)) ?_ (nm_e (ih (i + 1) (by omega)))⟩
    rw [nI_clamp (by omega), nI_clamp (by omega)]
    rfl
theorem xr_tuL {post : Int32 → SX → Prop} {c : Nat} (h0 : 0 < c) (hc : c ≤ 20) (hp : post x (fb, fc, nI c, m, cl, upd (bw_dr t (c - 1)) (c - 1) x, R, B)) : ∀ k i, i + 1 + k = c → wX_turn_19 post x fb fc (nI c) (k + 1) (nI (i + 1)) m cl (bw_dr t i) R B := by
  intro k
  induction k with
  | zero =>
    intro i h
    obtain rfl : c = i + 1 := by omega
    refine br_t (nI_le (by omega) (by omega)) ?_
    rw [nI_pred]
    exact ⟨vp_in_nI (by omega) (by omega), nm_r (by rw [nI_clamp (by omega)]; rfl) hp⟩
  | succ k ih =>
    intro i h
    refine br_f (nI_ge (by omega) (by omega)) ⟨vp_in_nI (by omega) (by omega), ?_⟩
    rw [nI_pred]
    refine ⟨vp_in_nI (by omega) (by omega), nm_r (e' := bw_dr t (i + 1)) ?_ (nm_r (nI_1 _) (ih (i + 1) (by omega)))⟩
    rw [nI_clamp (by omega), nI_clamp (by omega)]
    rfl
theorem yr_tuL {post : Int32 → SY → Prop} {c : Nat} (h0 : 0 < c) (hc : c ≤ 20) (hp : post x (fb, fc, nI c, fl, m, cl, upd (bw_dr t (c - 1)) (c - 1) x, B, R)) : ∀ k i, i + 1 + k = c → wY_turn_19 post x fb fc (nI c) fl (k + 1) (nI i) m cl (bw_dr t i) B R := by
  intro k
  have e : nI c - 1 = nI (c - 1) := pk_sub (b := 1) h0
  induction k with
  | zero =>
    intro i h
    obtain rfl : c = i + 1 := by omega
    refine br_t ?_ ?_
    · rw [e]; exact nI_le (by omega) (by omega)
    · rw [e]
      exact ⟨vp_in_nI (by omega) (by omega), nm_r (by rw [nI_clamp (by omega)]; rfl) hp⟩
  | succ k ih =>
    intro i h
    refine br_f ?_ ?_
    · rw [e]; exact nI_ge (by omega) (by omega)
    · rw [nI_1 i]
      refine ⟨vp_in_nI (by omega) (by omega), vp_in_nI (by omega) (by omega), nm_r (e' := bw_dr t (i + 1)) ?_ (nm_e (ih (i + 1) (by omega)))⟩
      rw [nI_clamp (by omega), nI_clamp (by omega)]
      rfl
theorem xr_call1 {post : Int32 → Prop} {y : Nat} (h : y < 3) (hp : post 1) : wpX_isCall post (nI y) :=
  br_f (nI_pos (by omega)) (br_f (nI_ge (b := 3) h (by decide)) hp)
theorem xr_call0 {post : Int32 → Prop} {y : Int32} (h : y < 0 ∨ nI 3 ≤ y) (hp : post 0) : wpX_isCall post y :=
  br_c (fun _ => hp) (fun h0 => br_t (h.resolve_left h0) hp)
theorem yr_call1 {post : Int32 → Prop} {v : SY} {y : Nat} (h : y < 3) (hp : post 0) : wpY_noCall post v (nI y) :=
  br_f (nI_pos (by omega)) (br_t (nI_le (b := 2) (by omega) (by decide)) hp)
theorem yr_call0 {post : Int32 → Prop} {v : SY} {y : Int32} (h : y < 0 ∨ nI 3 ≤ y) (hp : post 1) : wpY_noCall post v y :=
  br_c (fun _ => hp) (fun h0 => br_f (fun z => absurd (Int32.le_trans (h.resolve_left h0) z) (by decide)) hp)
theorem bw_call (y : Int32) : (y < 0 ∨ nI 3 ≤ y) ∨ ∃ x : Nat, x < 3 ∧ y = nI x := by
  rcases pk_ix y (n := 3) (by decide) with h | h | h
  · exact Or.inl (Or.inl h)
  · exact Or.inl (Or.inr h)
  · exact Or.inr h
end
theorem i_vc_drop {k : Nat} {u : SX} {v : SY} (I : i_Rel k u v) (hk : k + 3 ≤ 1537) : wpX_drop (fun r u' => wpY_drop (fun r' v' => r' = r ∧ i_Rel (k + 3) u' v') v) u := by
  obtain ⟨N, s, c, m, cl, t, RX, BX, BY, RY, l, H, hc, ht, rfl, rfl⟩ := I
  have h12 := H.2.2.2.1
  have h1 := H.2.2.1
  by_cases hs : s = 1
  · subst hs
    exact br_f (nI_nlt (a := 1) (b := 1) (by decide) (by decide)) (br_t rfl ⟨rfl, bw_mk H hc ht⟩)
  · refine br_t (nI_lt (a := 1) (by omega) (by omega)) (nm_e ⟨s, ?_⟩)
    have hx := xr_drL (post := fun r u' => wpY_drop (fun r' v' => r' = r ∧ i_Rel (k + 3) u' v') (nI N, nI s, nI c, l, m, cl, t, BY, RY)) (x := m 0) (fb := nI N) (fl := nI c) (m := m) (cl := cl) (t := t) (R := RX) (B := BX) h12 ?_ (s - 1) 0 (by omega)
    · rw [show s - 1 + 1 = s from by omega] at hx
      exact hx
    · have e : nI s - 1 = nI (s - 1) := pk_sub (b := 1) h1
      refine br_f (fun z => hs ((nI_eq (b := 1) (by omega) (by decide)).mp z)) (nm_e (nm_r e ⟨s - 1 + 1, yr_drL (by omega) ⟨rfl, bw_mk ?_ hc ht⟩ (s - 1) 0 (by omega)⟩))
      refine ⟨H.1, H.2.1, by omega, by omega, fun i hi => ?_, H.2.2.2.2.2⟩
      rw [bw_drV, if_pos hi]
      exact H.2.2.2.2.1 (i + 1) (by omega)
theorem i_vc_lead {k : Nat} {u : SX} {v : SY} (I : i_Rel k u v) (hk : k + 3 ≤ 1537) (v1 : Int32) : wpX_lead (fun r u' => wpY_lead (fun r' v' => r' = r ∧ i_Rel (k + 3) u' v') v v1) u v1 := by
  obtain ⟨N, s, c, m, cl, t, RX, BX, BY, RY, l, H, hc, ht, rfl, rfl⟩ := I
  unfold wpX_lead wpY_lead
  dsimp only
  rcases bw_call v1 with h | ⟨y, hy, rfl⟩
  · exact xr_call0 h (br_t rfl (yr_call0 h (br_f bw_10 ⟨rfl, bw_mk H hc ht⟩)))
  · refine xr_call1 hy (br_f bw_10 (pk_lt c 20 (fun h => ⟨vp_in_nI h (by omega), nm_r (e' := upd t c (nI y)) (by rw [nI_clamp (by omega)]) (nm_r (nI_1 c) ?_)⟩) (fun h => ?_)))
    · refine yr_call1 hy (br_t rfl (br_f ?_ ⟨vp_in_nI (by omega) (by omega), nm_r (e' := upd t c (nI y)) (by rw [nI_clamp (by omega)]) (nm_r (nI_1 c) ⟨rfl, bw_mk H (by omega) ?_⟩)⟩))
      · intro z
        exact absurd ((nI_eq (b := 20) (by omega) (by decide)).mp z) (by omega)
      · intro i hi
        by_cases e : i = c
        · subst e; exact ⟨y, hy, pk_us⟩
        · rw [pk_un e]; exact ht i (by omega)
    · obtain rfl : c = 20 := by omega
      exact yr_call1 hy (br_t rfl (br_t rfl ⟨rfl, bw_mk H hc ht⟩))
theorem i_vc_back {k : Nat} {u : SX} {v : SY} (I : i_Rel k u v) (hk : k + 3 ≤ 1537) : wpX_back (fun r u' => wpY_back (fun r' v' => r' = r ∧ i_Rel (k + 3) u' v') v) u := by
  obtain ⟨N, s, c, m, cl, t, RX, BX, BY, RY, l, H, hc, ht, rfl, rfl⟩ := I
  cases c with
  | zero => exact br_t rfl (br_t rfl ⟨rfl, bw_mk H hc ht⟩)
  | succ c =>
    have h0 := nI_ne0 (n := c + 1) (by omega) (by omega)
    refine br_f h0 (nm_r (nI_pred c) ⟨vp_in_nI (by omega) (by omega), br_f h0 (nm_r (nI_pred c) ⟨vp_in_nI (by omega) (by omega), rfl, bw_mk H (by omega) (fun i hi => ht i (by omega))⟩)⟩)
theorem i_vc_turn {k : Nat} {u : SX} {v : SY} (I : i_Rel k u v) (hk : k + 3 ≤ 1537) : wpX_turn (fun r u' => wpY_turn (fun r' v' => r' = r ∧ i_Rel (k + 3) u' v') v) u := by
  obtain ⟨N, s, c, m, cl, t, RX, BX, BY, RY, l, H, hc, ht, rfl, rfl⟩ := I
  by_cases hc0 : c = 0
  · subst hc0
    exact br_t rfl (br_t rfl ⟨rfl, bw_mk H hc ht⟩)
  · have h0 := nI_ne0 (n := c) (by omega) (by omega)
    have hy := yr_tuL (post := fun r' v' => r' = t 0 ∧ i_Rel (k + 3) (nI N, nI s, nI c, m, cl, upd (bw_dr t (c - 1)) (c - 1) (t 0), RX, BX) v') (x := t 0) (fb := nI N) (fc := nI s) (fl := l) (m := m) (cl := cl) (t := t) (R := RY) (B := BY) (by omega) hc ⟨rfl, bw_mk H hc (fun i hi => ?_)⟩ (c - 1) 0 (by omega)
    · have hx := xr_tuL (post := fun r u' => wpY_turn (fun r' v' => r' = r ∧ i_Rel (k + 3) u' v') (nI N, nI s, nI c, l, m, cl, t, BY, RY)) (x := t 0) (fb := nI N) (fc := nI s) (m := m) (cl := cl) (t := t) (R := RX) (B := BX) (by omega) hc (br_f h0 (nm_e ⟨_, hy⟩)) (c - 1) 0 (by omega)
      exact br_f h0 (nm_e ⟨_, hx⟩)
    · by_cases e : i = c - 1
      · subst e; rw [pk_us]; exact ht 0 (by omega)
      · rw [pk_un e, bw_drV, if_pos (by omega)]; exact ht (i + 1) (by omega)
theorem i_vc_last {k : Nat} {u : SX} {v : SY} (I : i_Rel k u v) (hk : k + 3 ≤ 1537) : wpX_last (fun r => wpY_last (fun r' => r' = r ∧ i_Rel (k + 3) u v) v) u := by
  obtain ⟨N, s, c, m, cl, t, RX, BX, BY, RY, l, H, hc, ht, rfl, rfl⟩ := I
  exact ⟨rfl, bw_mk H hc ht⟩
end
section
/-! the questions -/
def bw_tc (t : Nat → Int32) (i : Nat) : Nat := (t i).toNatClampNeg % 3
theorem bw_tc3 (t : Nat → Int32) (i : Nat) : bw_tc t i < 3 := Nat.mod_lt _ (by decide)
theorem bw_tcE {c : Nat} {t : Nat → Int32} (ht : ∀ i, i < c → ∃ x : Nat, x < 3 ∧ t i = nI x) : ∀ i, i < c → t i = nI (bw_tc t i) := by
  intro i hi
  obtain ⟨x, hx, e⟩ := ht i hi
  unfold bw_tc
  rw [e, nI_clamp (by omega), Nat.mod_eq_of_lt hx]
def bw_tx (t : Nat → Int32) (c x i : Nat) : Nat := if i = c then x else bw_tc t i
theorem bw_tx3 {t : Nat → Int32} {c x : Nat} (hx : x < 3) (i : Nat) : bw_tx t c x i < 3 := by
  unfold bw_tx
  by_cases h : i = c
  · rw [if_pos h]; exact hx
  · rw [if_neg h]; exact bw_tc3 t i
theorem bw_txE {c x : Nat} {t : Nat → Int32} (ht : ∀ i, i < c → ∃ x : Nat, x < 3 ∧ t i = nI x) : ∀ i, i < c → t i = nI (bw_tx t c x i) := by
  intro i hi
  unfold bw_tx
  rw [if_neg (by omega)]
  exact bw_tcE ht i hi
theorem bw_txC {c x : Nat} {t : Nat → Int32} : bw_tx t c x c = x := if_pos rfl
theorem bw_ctR {e : Nat} {R F : Nat → Int32} (h : ∀ q, 1 ≤ q → q ≤ e → R q = F q) : bw_ct (bw_fr R) e = bw_ct (bw_fr F) e := by
  refine bw_ctC e (fun k h1 h2 => ?_)
  unfold bw_fr
  apply decide_eq_decide.mpr
  constructor
  · intro a q h3 h4; rw [← h q h4 (by omega), ← h k h1 h2]; exact a q h3 h4
  · intro a q h3 h4; rw [h q h4 (by omega), h k h1 h2]; exact a q h3 h4
theorem bw_e {N s c : Nat} {m cl : Nat → Int32} (H : bw_St N s m cl) (hc : c ≤ 20) : c * s ≤ 240 := Nat.mul_le_mul (n₁ := c) (m₁ := s) (n₂ := 20) (m₂ := 12) hc H.2.2.2.1
section
variable {N s c : Nat} {fb fn fs fc fl : Int32} {m cl t R B : Nat → Int32}
theorem xr_last {post : Int32 → Prop} (hp : post (nI (c * s))) : wpX_last post (fb, nI s, nI c, m, cl, t, R, B) := by
  rw [← pk_mul] at hp
  exact hp
theorem bw_rn (x : Int32) {e : Nat} (he : e < 1000) : (x < 0 ∨ nI (e + 1) ≤ x) ∨ ∃ k : Nat, k ≤ e ∧ x = nI k := by
  rcases pk_ix x (n := e + 1) (by omega) with h | h | ⟨j, hj, h⟩
  · exact Or.inl (Or.inl h)
  · exact Or.inl (Or.inr h)
  · exact Or.inr ⟨j, by omega, h⟩
theorem bw_ltS {x : Int32} {e : Nat} (he : e < 1000) (h : nI (e + 1) ≤ x) : nI e < x := Int32.lt_of_lt_of_le (nI_lt (by omega) (by omega)) h
theorem xr_rn1 {post : Int32 → Prop} {k : Nat} (he : c * s < 1000) (h : k ≤ c * s) (hp : post 1) : wpX_isRowNumber post (fb, nI s, nI c, m, cl, t, R, B) (nI k) :=
  br_f (nI_pos (by omega)) (xr_last (br_f (nI_nlt h (by omega)) hp))
theorem xr_rn0 {post : Int32 → Prop} {x : Int32} (he : c * s < 1000) (h : x < 0 ∨ nI (c * s + 1) ≤ x) (hp : post 0) : wpX_isRowNumber post (fb, nI s, nI c, m, cl, t, R, B) x :=
  br_c (fun _ => hp) (fun h0 => xr_last (br_t (bw_ltS he (h.resolve_left h0)) hp))
theorem yr_find1 {post : Int32 → Prop} {k e : Nat} (he : e < 260) (h : k ≤ e) (hp : post (R k)) : wpY_find post (fn, fs, fc, nI e, m, cl, t, B, R) (nI k) := by
  refine br_f (nI_pos (by omega)) (br_t (nI_le h (by omega)) ⟨vp_in_nI (by omega) (by omega), ?_⟩)
  rw [nI_clamp (by omega)]
  exact hp
theorem yr_find0 {post : Int32 → Prop} {x : Int32} {e : Nat} (he : e < 1000) (h : x < 0 ∨ nI (e + 1) ≤ x) (hp : post (-4)) : wpY_find post (fn, fs, fc, nI e, m, cl, t, B, R) x :=
  br_c (fun _ => hp) (fun h0 => br_f (Int32.not_le.mpr (bw_ltS he (h.resolve_left h0))) hp)
theorem bw_bell (x : Int32) (hN : N ≤ 6) : (x < 1 ∨ nI N < x) ∨ ∃ y : Nat, 1 ≤ y ∧ y ≤ N ∧ x = nI y := by
  rcases pk_ix x (n := N + 1) (by omega) with h | h | ⟨j, hj, h⟩
  · exact Or.inl (Or.inl (Int32.lt_trans h (by decide)))
  · exact Or.inl (Or.inr (bw_ltS (by omega) h))
  · by_cases h0 : j = 0
    · subst h0; rw [h]; exact Or.inl (Or.inl (by decide))
    · exact Or.inr ⟨j, by omega, by omega, h⟩
theorem xr_bell1 {post : Int32 → Prop} {y : Nat} (hN : N ≤ 6) (h1 : 1 ≤ y) (h2 : y ≤ N) (hp : post 1) : wpX_isBell post (nI N, fc, fl, m, cl, t, R, B) (nI y) :=
  br_f (nI_nlt (b := 1) h1 (by omega)) (br_f (nI_nlt h2 (by omega)) hp)
theorem xr_bell0 {post : Int32 → Prop} {x : Int32} (h : x < 1 ∨ nI N < x) (hp : post 0) : wpX_isBell post (nI N, fc, fl, m, cl, t, R, B) x :=
  br_c (fun _ => hp) (fun h0 => br_t (h.resolve_left h0) hp)
theorem yr_bell1 {post : Int32 → Prop} {y : Nat} (hN : N ≤ 6) (h1 : 1 ≤ y) (h2 : y ≤ N) (hp : post 0) : wpY_noBell post (nI N, fs, fc, fl, m, cl, t, B, R) (nI y) :=
  br_f (nI_nlt (b := 1) h1 (by omega)) (br_t (nI_le h2 (by omega)) hp)
theorem yr_bell0 {post : Int32 → Prop} {x : Int32} (h : x < 1 ∨ nI N < x) (hp : post 1) : wpY_noBell post (nI N, fs, fc, fl, m, cl, t, B, R) x :=
  br_c (fun _ => hp) (fun h0 => br_f (Int32.not_le.mpr (h.resolve_left h0)) hp)
theorem bw_n4 {n : Nat} (h : n < 1000000) : ¬ nI n = -4 := by
  intro e
  have := nI_pos (n := n) (by omega)
  rw [e] at this
  exact this (by decide)
end
theorem i_vc_row {k : Nat} {u : SX} {v : SY} (I : i_Rel k u v) (hk : k + 3 ≤ 1537) (v1 : Int32) : wpX_row (fun r u' => wpY_row (fun r' v' => r' = r ∧ i_Rel (k + 3) u' v') v v1) u v1 := by
  obtain ⟨N, s, c, m, cl, t, RX, BX, BY, RY, l, H, hc, ht, rfl, rfl⟩ := I
  have he := bw_e H hc
  unfold wpX_row wpY_row
  dsimp only
  rcases bw_rn v1 (e := c * s) (by omega) with h | ⟨q, hq, rfl⟩
  · exact xr_rn0 (by omega) h (br_t rfl (yr_write H (bw_tc3 t) hc (bw_tcE ht) (fun B' R' _ _ => yr_find0 (by omega) h ⟨rfl, bw_mk H hc ht⟩)))
  · refine xr_rn1 (by omega) hq (br_f bw_10 (xr_touch H (bw_tc3 t) hc (bw_tcE ht) (fun B' R' _ hR => ⟨vp_in_nI (by omega) (by omega), ?_⟩)))
    refine yr_write H (bw_tc3 t) hc (bw_tcE ht) (fun B2 R2 _ hR2 => yr_find1 (by omega) hq ⟨?_, bw_mk H hc ht⟩)
    dsimp only
    rw [nI_clamp (by omega), hR q hq, hR2 q hq]
theorem i_vc_place {k : Nat} {u : SX} {v : SY} (I : i_Rel k u v) (hk : k + 3 ≤ 1537) (v1 : Int32) (v2 : Int32) : wpX_place (fun r u' => wpY_place (fun r' v' => r' = r ∧ i_Rel (k + 3) u' v') v v1 v2) u v1 v2 := by
  obtain ⟨N, s, c, m, cl, t, RX, BX, BY, RY, l, H, hc, ht, rfl, rfl⟩ := I
  have he := bw_e H hc
  have h6 := H.2.1
  unfold wpX_place wpY_place
  dsimp only
  rcases bw_bell v1 h6 with hb | ⟨y, hy1, hy2, rfl⟩
  · exact xr_bell0 hb (br_t rfl (yr_bell0 hb (br_f bw_10 ⟨rfl, bw_mk H hc ht⟩)))
  · refine xr_bell1 h6 hy1 hy2 (br_f bw_10 ?_)
    rcases bw_rn v2 (e := c * s) (by omega) with h | ⟨q, hq, rfl⟩
    · exact xr_rn0 (by omega) h (br_t rfl (yr_bell1 h6 hy1 hy2 (br_t rfl (yr_write H (bw_tc3 t) hc (bw_tcE ht) (fun B' R' _ _ => yr_find0 (by omega) h (br_t rfl ⟨rfl, bw_mk H hc ht⟩))))))
    · have hP := bw_gsP H (bw_tc3 t) q
      obtain ⟨w, hw, hwy⟩ := bw_PmF hP hy1 hy2
      refine xr_rn1 (by omega) hq (br_f bw_10 (xr_touch H (bw_tc3 t) hc (bw_tcE ht) (fun B' R' _ hR => ⟨vp_in_nI (by omega) (by omega), ?_⟩)))
      dsimp only
      rw [nI_clamp (by omega), hR q hq]
      refine xr_plc h6 hP hw hwy ?_
      refine yr_bell1 h6 hy1 hy2 (br_t rfl (yr_write H (bw_tc3 t) hc (bw_tcE ht) (fun B2 R2 _ hR2 => yr_find1 (by omega) hq ?_)))
      dsimp only
      rw [hR2 q hq]
      exact br_f (bw_n4 (bw_cdL h6 (bw_PmL hP) (Nat.le_refl _))) (yr_plc h6 hP hw hwy ⟨rfl, bw_mk H hc ht⟩)
theorem i_vc_isTrue {k : Nat} {u : SX} {v : SY} (I : i_Rel k u v) (hk : k + 3 ≤ 1537) : wpX_isTrue (fun r u' => wpY_isTrue (fun r' v' => r' = r ∧ i_Rel (k + 3) u' v') v) u := by
  obtain ⟨N, s, c, m, cl, t, RX, BX, BY, RY, l, H, hc, ht, rfl, rfl⟩ := I
  have he := bw_e H hc
  unfold wpX_isTrue wpY_isTrue
  dsimp only
  refine xr_touch H (bw_tc3 t) hc (bw_tcE ht) (fun B' R' _ hR => ?_)
  dsimp only
  refine xr_last (xr_rep (by omega) (fun h => br_f bw_10 ?_) (fun h => br_t rfl ?_))
  · refine yr_write H (bw_tc3 t) hc (bw_tcE ht) (fun B2 R2 _ hR2 => ?_)
    dsimp only
    refine yr_cd (by omega) (br_f ?_ ⟨rfl, bw_mk H hc ht⟩)
    rw [bw_ctR (F := R') (fun q _ h2 => by rw [hR q h2, hR2 q h2]), nI_eq (by omega) (by omega)]
    omega
  · refine yr_write H (bw_tc3 t) hc (bw_tcE ht) (fun B2 R2 _ hR2 => ?_)
    dsimp only
    refine yr_cd (by omega) (br_t ?_ ⟨rfl, bw_mk H hc ht⟩)
    rw [bw_ctR (F := R') (fun q _ h2 => by rw [hR q h2, hR2 q h2]), h]
theorem i_vc_different {k : Nat} {u : SX} {v : SY} (I : i_Rel k u v) (hk : k + 3 ≤ 1537) : wpX_different (fun r u' => wpY_different (fun r' v' => r' = r ∧ i_Rel (k + 3) u' v') v) u := by
  obtain ⟨N, s, c, m, cl, t, RX, BX, BY, RY, l, H, hc, ht, rfl, rfl⟩ := I
  have he := bw_e H hc
  unfold wpX_different wpY_different
  dsimp only
  refine xr_touch H (bw_tc3 t) hc (bw_tcE ht) (fun B' R' _ hR => ?_)
  dsimp only
  refine xr_last ⟨c * s + 1, xr_difL (by omega) ?_ (c * s) 0 (by omega)⟩
  refine yr_write H (bw_tc3 t) hc (bw_tcE ht) (fun B2 R2 _ hR2 => ?_)
  dsimp only
  refine yr_cd (by omega) ⟨?_, bw_mk H hc ht⟩
  rw [bw_ctR (F := R') (fun q _ h2 => by rw [hR q h2, hR2 q h2])]
theorem i_vc_falsePairs {k : Nat} {u : SX} {v : SY} (I : i_Rel k u v) (hk : k + 3 ≤ 1537) : wpX_falsePairs (fun r u' => wpY_falsePairs (fun r' v' => r' = r ∧ i_Rel (k + 3) u' v') v) u := by
  obtain ⟨N, s, c, m, cl, t, RX, BX, BY, RY, l, H, hc, ht, rfl, rfl⟩ := I
  have h12 := H.2.2.2.1
  unfold wpX_falsePairs wpY_falsePairs
  dsimp only
  have hY : ∀ (R' B' : Nat → Int32), wpY_write (fun v => ∃ n8 : Nat, wY_falsePairs_8 (fun r' v' => r' = nI (bw_sm (fun b => bw_sm (fun a => bw_S s (bw_F N s m cl (bw_tc t)) a b) b) c) ∧ i_Rel (k + 3) (nI N, nI s, nI c, m, cl, t, R', B') v') v.1 v.2.1 v.2.2.1 v.2.2.2.1 v.2.2.2.2.1 v.2.2.2.2.2.1 v.2.2.2.2.2.2.1 v.2.2.2.2.2.2.2.1 v.2.2.2.2.2.2.2.2 n8 0 0) (nI N, nI s, nI c, l, m, cl, t, BY, RY) := by
    intro R' B'
    refine yr_write H (bw_tc3 t) hc (bw_tcE ht) (fun B2 R2 _ hR2 => ⟨c + 1, yr_fpL h12 hc hR2 ⟨?_, bw_mk H hc ht⟩ c 0 (by omega)⟩)
    rw [bw_swap]
  refine xr_touch H (bw_tc3 t) hc (bw_tcE ht) (fun B' R' _ hR => ?_)
  by_cases hc0 : c = 0
  · subst hc0
    exact ⟨1, br_t (nI_le (a := 0) (b := 1) (by decide) (by decide)) (hY R' B')⟩
  · exact ⟨c - 1 + 1, xr_fpL h12 hc hR (hY R' B') (c - 1) 1 (by omega)⟩
theorem i_vc_falseAlone {k : Nat} {u : SX} {v : SY} (I : i_Rel k u v) (hk : k + 3 ≤ 1537) (v1 : Int32) : wpX_falseAlone (fun r u' => wpY_falseAlone (fun r' v' => r' = r ∧ i_Rel (k + 3) u' v') v v1) u v1 := by
  obtain ⟨N, s, c, m, cl, t, RX, BX, BY, RY, l, H, hc, ht, rfl, rfl⟩ := I
  have h6 := H.2.1
  have h12 := H.2.2.2.1
  unfold wpX_falseAlone wpY_falseAlone
  dsimp only
  rcases bw_call v1 with h | ⟨y, hy, rfl⟩
  · exact xr_call0 h (br_t rfl (yr_call0 h (br_f bw_10 ⟨rfl, bw_mk H hc ht⟩)))
  · have hg : ∀ j, j < s → bw_gs N s m cl (fun _ => y) (0 * s + (j + 1)) = fun q => bw_gs N s m cl (fun _ => y) (0 * s + j) (bw_sg N (bw_st s m cl y j) q) := fun j hj => bw_gsS (i := 0) hj
    refine xr_call1 hy (br_f bw_10 (xr_start h6 (fun B1 hB1 => ?_)))
    refine xr_lead (rb := 0) (gs := fun j => bw_gs N s m cl (fun _ => y) (0 * s + j)) H hy (by omega) hg (by dsimp only; rw [Nat.zero_mul]; exact hB1) (fun B2 R2 _ _ hR => ?_)
    have hY : ∀ post : SY → Prop, (∀ B' R', (∀ q, q < s → R' (0 + 1 + q) = nI (bw_cd (bw_gs N s m cl (fun _ => y) (0 * s + (q + 1))) N)) → post (nI N, nI s, nI c, nI (0 + s), m, cl, t, B', R')) → wpY_round (fun v => wpY_ring post (v.1, v.2.1, v.2.2.1, 0, v.2.2.2.2.1, v.2.2.2.2.2.1, v.2.2.2.2.2.2.1, v.2.2.2.2.2.2.2.1, v.2.2.2.2.2.2.2.2) (nI y)) (nI N, nI s, nI c, l, m, cl, t, BY, RY) := by
      intro post hp
      refine yr_round h6 (fun B3 hB3 => ?_)
      exact yr_lead (rb := 0) (gs := fun j => bw_gs N s m cl (fun _ => y) (0 * s + j)) H hy (by omega) hg (by dsimp only; rw [Nat.zero_mul]; exact hB3) (fun B' R' _ _ h => hp B' R' h)
    have hE : ∀ R' : Nat → Int32, (∀ q, q < s → R' (0 + 1 + q) = nI (bw_cd (bw_gs N s m cl (fun _ => y) (0 * s + (q + 1))) N)) → bw_ct (bw_fr R') (0 + s) = bw_ct (bw_fr R2) s := by
      intro R' h
      rw [Nat.zero_add]
      refine bw_ctR (fun q h1 h2 => ?_)
      have e1 := h (q - 1) (by omega)
      have e2 := hR (q - 1) (by omega)
      rw [show 0 + 1 + (q - 1) = q from by omega] at e1 e2
      rw [e1, e2]
    refine xr_rep (by omega) (fun h => br_f bw_10 ?_) (fun h => br_t rfl ?_)
    · refine yr_call1 hy (br_t rfl (hY _ (fun B' R' hR' => yr_cd (by omega) (br_f ?_ ⟨rfl, bw_mk H hc ht⟩))))
      rw [hE R' hR']
      exact nI_ge h (by omega)
    · refine yr_call1 hy (br_t rfl (hY _ (fun B' R' hR' => yr_cd (by omega) (br_t ?_ ⟨rfl, bw_mk H hc ht⟩))))
      rw [hE R' hR', h]
      exact nI_le (Nat.le_refl _) (by omega)
theorem i_vc_home {k : Nat} {u : SX} {v : SY} (I : i_Rel k u v) (hk : k + 3 ≤ 1537) : wpX_home (fun r u' => wpY_home (fun r' v' => r' = r ∧ i_Rel (k + 3) u' v') v) u := by
  obtain ⟨N, s, c, m, cl, t, RX, BX, BY, RY, l, H, hc, ht, rfl, rfl⟩ := I
  have he := bw_e H hc
  unfold wpX_home wpY_home
  dsimp only
  refine xr_touch H (bw_tc3 t) hc (bw_tcE ht) (fun B' R' _ hR => ?_)
  dsimp only
  refine xr_last ⟨vp_in_nI (by omega) (by omega), ?_⟩
  rw [nI_clamp (by omega), hR (c * s) (by omega), hR 0 (by omega)]
  refine br_c (fun h => ?_) (fun h => ?_)
  · refine yr_write H (bw_tc3 t) hc (bw_tcE ht) (fun B2 R2 _ hR2 => ?_)
    dsimp only
    refine ⟨vp_in_nI (by omega) (by omega), br_t ?_ ⟨rfl, bw_mk H hc ht⟩⟩
    rw [nI_clamp (by omega), hR2 (c * s) (by omega), hR2 0 (by omega)]; exact h
  · refine yr_write H (bw_tc3 t) hc (bw_tcE ht) (fun B2 R2 _ hR2 => ?_)
    dsimp only
    refine ⟨vp_in_nI (by omega) (by omega), br_f ?_ ⟨rfl, bw_mk H hc ht⟩⟩
    rw [nI_clamp (by omega), hR2 (c * s) (by omega), hR2 0 (by omega)]; exact h
theorem i_vc_leads {k : Nat} {u : SX} {v : SY} (I : i_Rel k u v) (hk : k + 3 ≤ 1537) (v1 : Int32) : wpX_leads (fun r u' => wpY_leads (fun r' v' => r' = r ∧ i_Rel (k + 3) u' v') v v1) u v1 := by
  obtain ⟨N, s, c, m, cl, t, RX, BX, BY, RY, l, H, hc, ht, rfl, rfl⟩ := I
  have he := bw_e H hc
  have h6 := H.2.1
  have h3 := H.1
  unfold wpX_leads wpY_leads
  dsimp only
  rcases bw_bell v1 h6 with hb | ⟨y, hy1, hy2, rfl⟩
  · exact xr_bell0 hb (br_t rfl (yr_bell0 hb (br_f bw_10 ⟨rfl, bw_mk H hc ht⟩)))
  · have hP := bw_gsP H (bw_tc3 t)
    refine xr_bell1 h6 hy1 hy2 (br_f bw_10 (xr_touch H (bw_tc3 t) hc (bw_tcE ht) (fun B' R' _ hR => xr_last ⟨c * s + 1, xr_lsL h6 (by omega) hy1 hy2 hP hR ?_ (c * s) 0 (by omega)⟩)))
    refine yr_bell1 h6 hy1 hy2 (br_t rfl (yr_write H (bw_tc3 t) hc (bw_tcE ht) (fun B2 R2 _ hR2 => ⟨N - 1 + 1, yr_top (by omega) h6 ⟨c * s + 1, yr_lsL (by omega) h6 (by omega) hy1 hy2 hP hR2 ⟨rfl, bw_mk H hc ht⟩ (c * s) 0 (by omega)⟩ (N - 1) 0 (by omega)⟩)))
end
section
/-! order and choices -/
section
variable {N s c x K : Nat} {m cl t : Nat → Int32}
theorem bw_cdE (H : bw_St N s m cl) (hx : x < 3) {i : Nat} : nI (bw_cd (bw_gs N s m cl (fun _ => x) i) N) = nI (bw_cd (fun q => q) N) ↔ bw_cd (bw_gs N s m cl (fun _ => x) i) N = bw_cd (fun q => q) N := by
  have a := bw_cdL H.2.1 (bw_PmL (bw_gsP (tc := fun _ => x) H (fun _ => hx) i)) (p := N) (Nat.le_refl _)
  have b := bw_cdL H.2.1 (bw_PmL (bw_Pm0 N)) (p := N) (Nat.le_refl _)
  exact nI_eq (by omega) (by omega)
theorem bw_end {j : Nat} {R : Nat → Int32} (hs : 1 ≤ s) (h : ∀ q, q < s → R (0 + 1 + q) = nI (bw_cd (bw_gs N s m cl (fun _ => x) (j * s + (q + 1))) N)) : R s = nI (bw_cd (bw_gs N s m cl (fun _ => x) ((j + 1) * s)) N) := by
  have e := h (s - 1) (by omega)
  rw [show 0 + 1 + (s - 1) = s from by omega, show s - 1 + 1 = s from by omega] at e
  rw [e, Nat.add_mul, Nat.one_mul]
theorem xr_orL {post : Int32 → SX → Prop} {fl : Int32} (H : bw_St N s m cl) (hx : x < 3) (hK : K ≤ 60) (hE : bw_cd (bw_gs N s m cl (fun _ => x) (K * s)) N = bw_cd (fun q => q) N) (hN : ∀ j, 1 ≤ j → j < K → bw_cd (bw_gs N s m cl (fun _ => x) (j * s)) N ≠ bw_cd (fun q => q) N) (hp : ∀ R B, post (nI K) (nI N, nI s, fl, m, cl, t, R, B)) : ∀ k j, j + k + 1 = K → ∀ R B, bw_Ro N B (bw_gs N s m cl (fun _ => x) (j * s)) → R 0 = nI (bw_cd (fun q => q) N) → wX_order_15 post (nI x) (k + 1) (nI j) (nI N) (nI s) fl m cl t R B := by
  intro k
  have h12 := H.2.2.2.1
  have hs := H.2.2.1
  induction k with
  | zero =>
    intro j h R B hB hR
    obtain rfl : K = j + 1 := by omega
    refine xr_lead (rb := 0) (gs := fun i => bw_gs N s m cl (fun _ => x) (j * s + i)) H hx (by omega) (fun i hi => bw_gsS (tc := fun _ => x) hi) hB (fun B' R' hB' h1 h2 => ?_)
    refine nm_r (nI_1 j) ⟨vp_in_nI (by omega) (by omega), br_t ?_ (hp R' B')⟩
    rw [nI_clamp (by omega), bw_end hs h2, h1 0 (Nat.le_refl _), hR, hE]
  | succ k ih =>
    intro j h R B hB hR
    refine xr_lead (rb := 0) (gs := fun i => bw_gs N s m cl (fun _ => x) (j * s + i)) H hx (by omega) (fun i hi => bw_gsS (tc := fun _ => x) hi) hB (fun B' R' hB' h1 h2 => ?_)
    refine nm_r (nI_1 j) ⟨vp_in_nI (by omega) (by omega), br_f ?_ (br_t (nI_lt (b := 1000) (by omega) (by decide)) (ih (j + 1) (by omega) R' B' ?_ ?_))⟩
    · rw [nI_clamp (by omega), bw_end hs h2, h1 0 (Nat.le_refl _), hR, bw_cdE H hx]
      exact hN (j + 1) (by omega) (by omega)
    · rw [Nat.add_mul, Nat.one_mul]; exact hB'
    · rw [h1 0 (Nat.le_refl _), hR]
theorem yr_orL {post : Int32 → SY → Prop} {fc : Int32} (H : bw_St N s m cl) (hx : x < 3) (hE : bw_cd (bw_gs N s m cl (fun _ => x) (K * s)) N = bw_cd (fun q => q) N) (hN : ∀ j, 1 ≤ j → j < K → bw_cd (bw_gs N s m cl (fun _ => x) (j * s)) N ≠ bw_cd (fun q => q) N) (hp : ∀ l R B, post (nI K) (nI N, nI s, fc, l, m, cl, t, B, R)) : ∀ k j, j + k + 1 = K → ∀ (fl : Int32) R B, bw_Ro N B (bw_gs N s m cl (fun _ => x) (j * s)) → wY_order_24 post (nI x) (nI (bw_cd (fun q => q) N)) (k + 2) (nI j) 1 (nI N) (nI s) fc fl m cl t B R := by
  intro k
  have h12 := H.2.2.2.1
  have hs := H.2.2.1
  induction k with
  | zero =>
    intro j h fl R B hB
    obtain rfl : K = j + 1 := by omega
    refine br_f bw_10 ?_
    refine yr_lead (rb := 0) (gs := fun i => bw_gs N s m cl (fun _ => x) (j * s + i)) H hx (by omega) (fun i hi => bw_gsS (tc := fun _ => x) hi) hB (fun B' R' hB' h1 h2 => ?_)
    dsimp only
    rw [Nat.zero_add]
    refine nm_r (nI_1 j) ⟨vp_in_nI (by omega) (by omega), br_t ?_ (br_t rfl (hp _ R' B'))⟩
    rw [nI_clamp (by omega), bw_end hs h2, hE]
  | succ k ih =>
    intro j h fl R B hB
    refine br_f bw_10 ?_
    refine yr_lead (rb := 0) (gs := fun i => bw_gs N s m cl (fun _ => x) (j * s + i)) H hx (by omega) (fun i hi => bw_gsS (tc := fun _ => x) hi) hB (fun B' R' hB' h1 h2 => ?_)
    dsimp only
    rw [Nat.zero_add]
    refine nm_r (nI_1 j) ⟨vp_in_nI (by omega) (by omega), br_f ?_ (ih (j + 1) (by omega) _ R' B' ?_)⟩
    · rw [nI_clamp (by omega), bw_end hs h2, bw_cdE H hx]
      exact hN (j + 1) (by omega) (by omega)
    · rw [Nat.add_mul, Nat.one_mul]; exact hB'
/-- would one more lead with call x leave the touch true -/
def bw_ok (N s c : Nat) (m cl t : Nat → Int32) (x : Nat) : Nat := if bw_ct (bw_fr (bw_F N s m cl (bw_tx t c x))) (c * s + s) = c * s + s then 1 else 0
theorem bw_oneL {y : Nat} {R R' : Nat → Int32} (hR : ∀ q, q ≤ c * s → R q = bw_F N s m cl (bw_tx t c y) q) (h1 : ∀ q, q ≤ c * s → R' q = R q) (h2 : ∀ q, q < s → R' (c * s + 1 + q) = nI (bw_cd (bw_gs N s m cl (bw_tx t c y) (c * s + (q + 1))) N)) : bw_ct (bw_fr R') (c * s + s) = bw_ct (bw_fr (bw_F N s m cl (bw_tx t c y))) (c * s + s) := by
  refine bw_ctR (fun q _ hq => bw_ext hR h1 h2 q ?_)
  rw [Nat.add_mul, Nat.one_mul]; exact hq
theorem bw_txS {y j : Nat} (hj : j < s) : bw_gs N s m cl (bw_tx t c y) (c * s + (j + 1)) = fun q => bw_gs N s m cl (bw_tx t c y) (c * s + j) (bw_sg N (bw_st s m cl y j) q) := by
  have e := bw_gsS (N := N) (m := m) (cl := cl) (tc := bw_tx t c y) (i := c) hj
  rw [bw_txC] at e
  exact e
theorem xr_chL {post : Int32 → SX → Prop} (H : bw_St N s m cl) (hc : c ≤ 20) (ht : ∀ i, i < c → ∃ x : Nat, x < 3 ∧ t i = nI x) (hp : ∀ R B, post (nI (bw_sm (bw_ok N s c m cl t) 3)) (nI N, nI s, nI c, m, cl, t, R, B)) : ∀ k p, p + k = 3 → ∀ R B, wX_choices_9 post (nI (c * s)) (k + 1) (nI (bw_sm (bw_ok N s c m cl t) p)) (nI p) (nI N) (nI s) (nI c) m cl t R B := by
  intro k
  have he := bw_e H hc
  have h12 := H.2.2.2.1
  induction k with
  | zero =>
    intro p h R B
    obtain rfl : p = 3 := by omega
    exact br_t (nI_le (a := 3) (b := 3) (by decide) (by decide)) (hp R B)
  | succ k ih =>
    intro p h R B
    have hy : p < 3 := by omega
    refine br_f (nI_ge (b := 3) hy (by decide)) ?_
    refine xr_touch H (bw_tx3 (t := t) (c := c) hy) hc (bw_txE ht) (fun B1 R1 hB1 hR1 => ?_)
    refine xr_lead (gs := fun j => bw_gs N s m cl (bw_tx t c p) (c * s + j)) H hy (by omega) (fun j hj => bw_txS hj) hB1 (fun B2 R2 _ h1 h2 => ?_)
    have e := bw_oneL hR1 h1 h2
    dsimp only
    rw [nI_add (c * s) s]
    have hi := ih (p + 1) (by omega) R2 B2
    rw [bw_sm, bw_ok] at hi
    refine xr_rep (by omega) (fun hq => br_f bw_10 (nm_r (nI_1 p) ?_)) (fun hq => br_t rfl (nm_r (nI_1 _) (nm_r (nI_1 p) ?_)))
    · rw [if_neg (by omega)] at hi; exact hi
    · rw [if_pos (by omega)] at hi; exact hi
theorem yr_chL {post : Int32 → SY → Prop} (H : bw_St N s m cl) (hc : c ≤ 20) (ht : ∀ i, i < c → ∃ x : Nat, x < 3 ∧ t i = nI x) (hp : ∀ l R B, post (nI (bw_sm (bw_ok N s c m cl t) 3)) (nI N, nI s, nI c, l, m, cl, t, B, R)) : ∀ k p, p + k = 3 → ∀ (l : Int32) R B, wY_choices_4 post (k + 1) (nI (bw_sm (bw_ok N s c m cl t) p)) (nI p) (nI N) (nI s) (nI c) l m cl t B R := by
  intro k
  have he := bw_e H hc
  have h12 := H.2.2.2.1
  induction k with
  | zero =>
    intro p h l R B
    obtain rfl : p = 3 := by omega
    exact br_t (nI_le (a := 3) (b := 3) (by decide) (by decide)) (hp l R B)
  | succ k ih =>
    intro p h l R B
    have hy : p < 3 := by omega
    refine br_f (nI_ge (b := 3) hy (by decide)) ?_
    refine yr_write H (bw_tx3 (t := t) (c := c) hy) hc (bw_txE ht) (fun B1 R1 hB1 hR1 => ?_)
    refine yr_lead (gs := fun j => bw_gs N s m cl (bw_tx t c p) (c * s + j)) H hy (by omega) (fun j hj => bw_txS hj) hB1 (fun B2 R2 _ h1 h2 => ?_)
    have e := bw_oneL hR1 h1 h2
    have hl := bw_ctLe (bw_fr R2) (c * s + s)
    have hi := ih (p + 1) (by omega) (nI (c * s + s)) R2 B2
    rw [bw_sm, bw_ok] at hi
    refine yr_cd (by omega) (pk_eq (bw_ct (bw_fr R2) (c * s + s)) (c * s + s) (fun hq => nm_r (nI_1 _) (nm_r (nI_1 p) ?_)) (fun hq => nm_r (nI_1 p) ?_))
    · rw [if_pos (by omega)] at hi; exact hi
    · rw [if_neg (by omega)] at hi; exact hi
end
theorem i_vc_order {k : Nat} {u : SX} {v : SY} (I : i_Rel k u v) (hk : k + 3 ≤ 1537) (v1 : Int32) : wpX_order (fun r u' => wpY_order (fun r' v' => r' = r ∧ i_Rel (k + 3) u' v') v v1) u v1 := by
  obtain ⟨N, s, c, m, cl, t, RX, BX, BY, RY, l, H, hc, ht, rfl, rfl⟩ := I
  have h6 := H.2.1
  unfold wpX_order wpY_order
  dsimp only
  rcases bw_call v1 with h | ⟨y, hy, rfl⟩
  · exact xr_call0 h (br_t rfl (yr_call0 h (br_f bw_10 ⟨rfl, bw_mk H hc ht⟩)))
  · obtain ⟨K, hK1, hK, hE, hN⟩ := bw_first H hy
    refine xr_call1 hy (br_f bw_10 (xr_start h6 (fun B1 hB1 => ⟨K - 1 + 1, xr_orL H hy hK hE hN (fun R2 B2 => ?_) (K - 1) 0 (by omega) (upd RX 0 (nI (bw_cd (fun q => q) N))) B1 ?_ pk_us⟩)))
    · refine yr_call1 hy (br_t rfl (yr_round h6 (fun B3 hB3 => yr_code h6 hB3 ⟨K - 1 + 2, yr_orL H hy hE hN (fun l' R4 B4 => ⟨rfl, bw_mk H hc ht⟩) (K - 1) 0 (by omega) _ _ B3 ?_⟩)))
      rw [Nat.zero_mul]; exact hB3
    · rw [Nat.zero_mul]; exact hB1
theorem i_vc_choices {k : Nat} {u : SX} {v : SY} (I : i_Rel k u v) (hk : k + 3 ≤ 1537) : wpX_choices (fun r u' => wpY_choices (fun r' v' => r' = r ∧ i_Rel (k + 3) u' v') v) u := by
  obtain ⟨N, s, c, m, cl, t, RX, BX, BY, RY, l, H, hc, ht, rfl, rfl⟩ := I
  unfold wpX_choices wpY_choices
  dsimp only
  exact xr_last ⟨4, xr_chL H hc ht (fun R2 B2 => ⟨4, yr_chL H hc ht (fun l' R3 B3 => ⟨rfl, bw_mk H hc ht⟩) 3 0 (by omega) l RY BY⟩) 3 0 (by omega) RX BX⟩
end
