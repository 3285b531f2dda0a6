/-! the component's ringing -/
section
variable {N : Nat} {fc fl : Int32} {m cl t R B : Nat → Int32} {g : Nat → Nat}
theorem xr_codeL {post : Int32 → Prop} (hN : N ≤ 6) (hB : bw_Ro N B g) (hp : post (nI (bw_cd g N))) : ∀ k p, p + k = N → wX_codeOfBells_4 post (nI N) fc fl m cl t R B (k + 1) (nI (bw_cd g p)) (nI p) := by
  intro k
  induction k with
  | zero =>
    intro p h
    obtain rfl : p = N := by omega
    exact br_t (nI_le (Nat.le_refl _) (by omega)) hp
  | succ k ih =>
    intro p h
    refine br_f (nI_ge (by omega) (by omega)) ⟨vp_in_nI (by omega) (by omega), nm_r (e' := nI (bw_cd g (p + 1))) ?_ (nm_r (nI_1 p) (ih (p + 1) (by omega)))⟩
    rw [nI_clamp (by omega), hB p (by omega), bw_cd, Nat.mul_comm 10, ← nI_add (bw_cd g p * 10), ← pk_mul]
    rfl
theorem xr_code {post : Int32 → Prop} (hN : N ≤ 6) (hB : bw_Ro N B g) (hp : post (nI (bw_cd g N))) : wpX_codeOfBells post (nI N, fc, fl, m, cl, t, R, B) :=
  ⟨N + 1, xr_codeL hN hB hp N 0 (by omega)⟩
theorem xr_startL {post : SX → Prop} (hN : N ≤ 6) (hp : ∀ B', bw_Ro N B' (fun q => q) → post (nI N, fc, fl, m, cl, t, upd R 0 (nI (bw_cd (fun q => q) N)), B')) : ∀ k p, p + k = N → ∀ B, (∀ q, q < p → B q = nI (q + 1)) → wX_startAtRounds_2 post (nI N) fc fl (k + 1) (nI p) m cl t R B := by
  intro k
  induction k with
  | zero =>
    intro p h B hB
    obtain rfl : p = N := by omega
    exact br_t (nI_le (Nat.le_refl _) (by omega)) (xr_code (g := fun q => q) hN hB (nm_e (hp B hB)))
  | succ k ih =>
    intro p h B hB
    refine br_f (nI_ge (by omega) (by omega)) ⟨vp_in_nI (by omega) (by omega), nm_r (e' := upd B p (nI (p + 1))) ?_ (nm_r (nI_1 p) (ih (p + 1) (by omega) _ ?_))⟩
    · rw [nI_clamp (by omega), nI_1]
    · intro q hq
      by_cases h2 : q = p
      · subst h2; exact pk_us
      · rw [pk_un h2]; exact hB q (by omega)
theorem xr_start {post : SX → Prop} (hN : N ≤ 6) (hp : ∀ B', bw_Ro N B' (fun q => q) → post (nI N, fc, fl, m, cl, t, upd R 0 (nI (bw_cd (fun q => q) N)), B')) : wpX_startAtRounds post (nI N, fc, fl, m, cl, t, R, B) :=
  ⟨N + 1, xr_startL hN hp N 0 (by omega) B (fun _ h => absurd h (Nat.not_lt_zero _))⟩
theorem xr_sw {b : Nat → Int32} {p : Nat} (hp : p < 100) : upd (upd b (nI p).toNatClampNeg (b (nI p + 1).toNatClampNeg)) (nI p + 1).toNatClampNeg (b (nI p).toNatClampNeg) = bw_sw b p := by
  rw [nI_1, nI_clamp (by omega), nI_clamp (by omega)]
  rfl
theorem xr_exL {post : SX → Prop} {j : Nat} (hN : N ≤ 6) (hj : j < 64) : ∀ k p b, N ≤ k + p + 1 → p ≤ 6 → post (nI N, fc, fl, m, cl, t, R, bw_ex N j k p b) → wX_exchange_2 post (nI j) (nI N) fc fl (k + 1) (nI p) m cl t R b := by
  intro k
  induction k with
  | zero =>
    intro p b h hp6 hp
    refine br_t ?_ hp
    rw [nI_1]
    exact nI_le (by omega) (by omega)
  | succ k ih =>
    intro p b h hp6 hp
    by_cases h1 : N ≤ p + 1
    · rw [bw_exE h1] at hp
      refine br_t ?_ hp
      rw [nI_1]
      exact nI_le (by omega) (by omega)
    · refine br_f ?_ ?_
      · rw [nI_1]
        exact nI_ge (by omega) (by omega)
      · cases hb : bw_b j p with
        | true =>
          rw [bw_exT (by omega) hb] at hp
          exact br_t (bw_bt (by omega) (by omega) hb) (br_f bw_10 (nm_r (nI_1 p) (ih (p + 1) b (by omega) (by omega) hp)))
        | false =>
          rw [bw_exF (by omega) hb] at hp
          have hi : vp_in (nI p) 6 := vp_in_nI (by omega) (by omega)
          have hi1 : vp_in (nI p + 1) 6 := by rw [nI_1]; exact vp_in_nI (by omega) (by omega)
          exact br_f (by rw [bw_bf (by omega) (by omega) hb]; exact bw_01) (br_t rfl ⟨hi, nm_e ⟨hi1, hi, nm_e ⟨hi1, nm_r (xr_sw (by omega)) (nm_r (nI_1 p) (nm_r (nI_1 (p + 1)) (ih (p + 2) _ (by omega) (by omega) hp)))⟩⟩⟩)
theorem xr_exch {post : SX → Prop} {x : Int32} (hN : N ≤ 6) (hx : bw_Ch N x) (hB : bw_Ro N B g) (hp : ∀ B', bw_Ro N B' (fun q => g (bw_sg N x q)) → post (nI N, fc, fl, m, cl, t, R, B')) : wpX_exchange post (nI N, fc, fl, m, cl, t, R, B) x := by
  obtain ⟨j, hj, rfl, hc⟩ := hx
  exact ⟨8, xr_exL hN (bw_p6 hN hj) 7 0 B (by omega) (by omega) (hp _ (bw_RoX hN hj hc hB))⟩
theorem xr_40 {post : SX → Prop} {J : Int32 → Int32 → Int32 → Int32 → (Nat → Int32) → (Nat → Int32) → (Nat → Int32) → (Nat → Int32) → (Nat → Int32) → Prop} {x1 x : Int32} {rb i : Nat} (hN : N ≤ 6) (hr : rb + 1 + i < 253) (hx : bw_Ch N x) (hB : bw_Ro N B g) (hp : ∀ B', bw_Ro N B' (fun q => g (bw_sg N x q)) → J (nI (i + 1)) (nI N) fc fl m cl t (upd R (rb + 1 + i) (nI (bw_cd (fun q => g (bw_sg N x q)) N))) B') : wX_ringLead_40 post J x1 (nI rb) (nI i) x (nI N) fc fl m cl t R B := by
  unfold wX_ringLead_40
  refine xr_exch hN hx hB (fun B' hB' => ?_)
  refine xr_code hN hB' ?_
  have e : nI rb + 1 + nI i = nI (rb + 1 + i) := by rw [nI_1, nI_add]
  refine ⟨?_, nm_r (e' := upd R (rb + 1 + i) (nI (bw_cd (fun q => g (bw_sg N x q)) N))) ?_ (nm_r (nI_1 i) (hp B' hB'))⟩
  · rw [e]; exact vp_in_nI hr (by omega)
  · rw [e, nI_clamp (by omega)]
theorem xr_ldL {post : SX → Prop} {s x rb : Nat} {gs : Nat → (Nat → Nat)} {R0 : Nat → Int32} (H : bw_St N s m cl) (hx : x < 3) (hr : rb + s < 253) (hg : ∀ j, j < s → gs (j + 1) = fun q => gs j (bw_sg N (bw_st s m cl x j) q)) (hp : ∀ B' R', bw_Ro N B' (gs s) → (∀ q, q ≤ rb → R' q = R0 q) → (∀ q, q < s → R' (rb + 1 + q) = nI (bw_cd (gs (q + 1)) N)) → post (nI N, nI s, fl, m, cl, t, R', B')) : ∀ k i, i + k = s → ∀ R B, bw_Ro N B (gs i) → (∀ q, q ≤ rb → R q = R0 q) → (∀ q, q < i → R (rb + 1 + q) = nI (bw_cd (gs (q + 1)) N)) → wX_ringLead_2 post (nI x) (nI rb) (k + 1) (nI i) (nI N) (nI s) fl m cl t R B := by
  intro k
  have h6 := H.2.1
  have h12 := H.2.2.2.1
  induction k with
  | zero =>
    intro i h R B hB h1 h2
    obtain rfl : i = s := by omega
    exact br_t (nI_le (Nat.le_refl _) (by omega)) (hp B R hB h1 h2)
  | succ k ih =>
    intro i h R B hB h1 h2
    have hc := bw_stC H hx (show i < s by omega)
    have body : ∀ y : Int32, y = bw_st s m cl x i → wX_ringLead_40 post (wX_ringLead_2 post (nI x) (nI rb) (k + 1)) (nI x) (nI rb) (nI i) y (nI N) (nI s) fl m cl t R B := by
      intro y ey
      subst ey
      refine xr_40 h6 (by omega) hc hB (fun B' hB' => ?_)
      rw [← hg i (by omega)] at hB' ⊢
      refine ih (i + 1) (by omega) _ B' hB' (fun q hq => ?_) (fun q hq => ?_)
      · rw [pk_un (by omega)]; exact h1 q hq
      · by_cases e : q = i
        · subst e; exact pk_us
        · rw [pk_un (by omega)]; exact h2 q (by omega)
    refine br_f (nI_ge (by omega) (by omega)) ⟨vp_in_nI (by omega) (by omega), nm_r (e' := m i) (by rw [nI_clamp (by omega)]) ?_⟩
    by_cases hx0 : x = 0
    · subst hx0
      exact br_t rfl (body _ (by unfold bw_st; rw [if_neg (by omega)]))
    · refine br_f (nI_ne0 (by omega) (by omega)) (pk_eq i (s - 1) (fun e => ⟨vp_in_nI hx (by omega), nm_r (e' := cl x) (by rw [nI_clamp (by omega)]) (body _ ?_)⟩) (fun e => body _ ?_) rfl ?_)
      · unfold bw_st; rw [if_pos ⟨hx0, by omega⟩]
      · unfold bw_st; rw [if_neg (by omega)]
      · exact pk_sub (b := 1) (by omega)
theorem xr_lead {post : SX → Prop} {s x rb : Nat} {gs : Nat → (Nat → Nat)} (H : bw_St N s m cl) (hx : x < 3) (hr : rb + s < 253) (hg : ∀ j, j < s → gs (j + 1) = fun q => gs j (bw_sg N (bw_st s m cl x j) q)) (hB : bw_Ro N B (gs 0)) (hp : ∀ B' R', bw_Ro N B' (gs s) → (∀ q, q ≤ rb → R' q = R q) → (∀ q, q < s → R' (rb + 1 + q) = nI (bw_cd (gs (q + 1)) N)) → post (nI N, nI s, fl, m, cl, t, R', B')) : wpX_ringLead post (nI N, nI s, fl, m, cl, t, R, B) (nI x) (nI rb) :=
  ⟨s + 1, xr_ldL H hx hr hg hp s 0 (by omega) R B hB (fun _ _ => rfl) (fun _ h => absurd h (Nat.not_lt_zero _))⟩
end
section
variable {N s c : Nat} {m cl t R B : Nat → Int32} {tc : Nat → Nat}
/-- a lead more: the rows up to its end -/
theorem bw_ext {i : Nat} {R' : Nat → Int32} (h1 : ∀ q, q ≤ i * s → R q = bw_F N s m cl tc q) (h2 : ∀ q, q ≤ i * s → R' q = R q) (h3 : ∀ q, q < s → R' (i * s + 1 + q) = nI (bw_cd (bw_gs N s m cl tc (i * s + (q + 1))) N)) : ∀ q, q ≤ (i + 1) * s → R' q = bw_F N s m cl tc q := by
  intro q hq
  rw [Nat.add_mul, Nat.one_mul] at hq
  by_cases h : q ≤ i * s
  · rw [h2 q h, h1 q h]
  · have e := h3 (q - (i * s + 1)) (by omega)
    rw [show i * s + 1 + (q - (i * s + 1)) = q from by omega, show i * s + (q - (i * s + 1) + 1) = q from by omega] at e
    exact e
theorem bw_cs {c s i a b : Nat} (hc : c ≤ a) (hs : s ≤ b) (hi : i ≤ c) : i * s ≤ a * b := Nat.mul_le_mul (by omega) hs
theorem xr_tl {post : SX → Prop} (H : bw_St N s m cl) (h3 : ∀ i, tc i < 3) (hc : c ≤ 20) (ht : ∀ i, i < c → t i = nI (tc i)) (hp : ∀ B' R', bw_Ro N B' (bw_gs N s m cl tc (c * s)) → (∀ q, q ≤ c * s → R' q = bw_F N s m cl tc q) → post (nI N, nI s, nI c, m, cl, t, R', B')) : ∀ k i, i + k = c → ∀ R B, bw_Ro N B (bw_gs N s m cl tc (i * s)) → (∀ q, q ≤ i * s → R q = bw_F N s m cl tc q) → wX_ringTouch_6 post (k + 1) (nI i) (nI N) (nI s) (nI c) m cl t R B := by
  intro k
  have h12 := H.2.2.2.1
  induction k with
  | zero =>
    intro i h R B hB hR
    obtain rfl : i = c := by omega
    exact br_t (nI_le (Nat.le_refl _) (by omega)) (hp B R hB hR)
  | succ k ih =>
    intro i h R B hB hR
    have hb := bw_cs (i := i + 1) hc h12 (by omega)
    rw [Nat.add_mul, Nat.one_mul] at hb
    refine br_f (nI_ge (by omega) (by omega)) ⟨vp_in_nI (by omega) (by omega), ?_⟩
    rw [nI_clamp (by omega), ht i (by omega), pk_mul]
    refine xr_lead (gs := fun j => bw_gs N s m cl tc (i * s + j)) H (h3 i) (by omega) (fun j hj => bw_gsS hj) hB (fun B' R' hB' h1 h2 => ?_)
    refine nm_r (nI_1 i) (ih (i + 1) (by omega) R' B' ?_ (bw_ext hR h1 h2))
    rw [Nat.add_mul, Nat.one_mul]
    exact hB'
theorem xr_touch {post : SX → Prop} (H : bw_St N s m cl) (h3 : ∀ i, tc i < 3) (hc : c ≤ 20) (ht : ∀ i, i < c → t i = nI (tc i)) (hp : ∀ B' R', bw_Ro N B' (bw_gs N s m cl tc (c * s)) → (∀ q, q ≤ c * s → R' q = bw_F N s m cl tc q) → post (nI N, nI s, nI c, m, cl, t, R', B')) : wpX_ringTouch post (nI N, nI s, nI c, m, cl, t, R, B) := by
  refine xr_start H.2.1 (fun B' hB' => ?_)
  refine ⟨c + 1, xr_tl H h3 hc ht hp c 0 (by omega) _ B' ?_ (fun q hq => ?_)⟩
  · rw [Nat.zero_mul]; exact hB'
  · rw [Nat.zero_mul] at hq
    obtain rfl : q = 0 := by omega
    exact pk_us
end
