/-! the reference's ringing -/
section
variable {N : Nat} {fs fc fl : Int32} {m cl t R B : Nat → Int32} {g : Nat → Nat}
theorem yr_codeL {post : Int32 → Prop} (hN : N ≤ 6) (hB : bw_Ro N B g) (hp : post (nI (bw_cd g N))) : ∀ k p, p + k = N → wY_code_4 post (nI N) fs fc fl m cl t B R (k + 1) (nI (bw_cd g p)) (nI p) := by
  intro k
  induction k with
  | zero =>
    intro p h
    obtain rfl : p = N := by omega
    exact br_t (nI_le (Nat.le_refl _) (by omega)) hp
  | succ k ih =>
    intro p h
    refine br_f (nI_ge (by omega) (by omega)) ⟨vp_in_nI (by omega) (by omega), nm_r (e' := nI (bw_cd g (p + 1))) ?_ (nm_r (nI_1 p) (ih (p + 1) (by omega)))⟩
    rw [nI_clamp (by omega), hB p (by omega), bw_cd, ← nI_add (10 * bw_cd g p), ← pk_mul]
    rfl
theorem yr_code {post : Int32 → Prop} (hN : N ≤ 6) (hB : bw_Ro N B g) (hp : post (nI (bw_cd g N))) : wpY_code post (nI N, fs, fc, fl, m, cl, t, B, R) :=
  ⟨N + 1, yr_codeL hN hB hp N 0 (by omega)⟩
theorem yr_roundL {post : SY → Prop} (hN : N ≤ 6) (hp : ∀ B', bw_Ro N B' (fun q => q) → post (nI N, fs, fc, fl, m, cl, t, B', R)) : ∀ k p, p + k = N → ∀ B, (∀ q, q < p → B q = nI (q + 1)) → wY_round_2 post (nI N) fs fc fl (k + 1) (nI p) m cl t B R := by
  intro k
  induction k with
  | zero =>
    intro p h B hB
    obtain rfl : p = N := by omega
    exact br_t (nI_le (Nat.le_refl _) (by omega)) (hp B hB)
  | succ k ih =>
    intro p h B hB
    refine br_f (nI_ge (by omega) (by omega)) ⟨vp_in_nI (by omega) (by omega), nm_r (e' := upd B p (nI (p + 1))) ?_ (nm_r (nI_1 p) (ih (p + 1) (by omega) _ ?_))⟩
    · rw [nI_clamp (by omega), nI_1]
    · intro q hq
      by_cases h2 : q = p
      · subst h2; exact pk_us
      · rw [pk_un h2]; exact hB q (by omega)
theorem yr_round {post : SY → Prop} (hN : N ≤ 6) (hp : ∀ B', bw_Ro N B' (fun q => q) → post (nI N, fs, fc, fl, m, cl, t, B', R)) : wpY_round post (nI N, fs, fc, fl, m, cl, t, B, R) :=
  ⟨N + 1, yr_roundL hN hp N 0 (by omega) B (fun _ h => absurd h (Nat.not_lt_zero _))⟩
theorem yr_ckT {N j k p : Nat} (h : p < N) (hb : bw_b j p = true) : bw_ck N j (k + 1) p = bw_ck N j k (p + 1) := by
  rw [bw_ck, if_pos h, if_pos hb]
theorem yr_ckF {N j k p : Nat} (h : p + 1 < N) (hb : bw_b j p = false) (hb1 : bw_b j (p + 1) = false) : bw_ck N j (k + 1) p = bw_ck N j k (p + 2) := by
  rw [bw_ck, if_pos (by omega), if_neg (by rw [hb]; decide), if_pos h, if_neg (by rw [hb1]; decide)]
theorem yr_ckN {N j k p : Nat} (h : p + 1 < N) (hb : bw_b j p = false) (hb1 : bw_b j (p + 1) = true) : bw_ck N j (k + 1) p = false := by
  rw [bw_ck, if_pos (by omega), if_neg (by rw [hb]; decide), if_pos h, if_pos hb1]
theorem yr_ckE {N j k p : Nat} (h : p < N) (h1 : N ≤ p + 1) (hb : bw_b j p = false) : bw_ck N j (k + 1) p = false := by
  rw [bw_ck, if_pos h, if_neg (by rw [hb]; decide), if_neg (by omega)]
theorem yr_ckO {N j k p : Nat} (h : N ≤ p) : bw_ck N j k p = true := by
  cases k with
  | zero => rfl
  | succ k => rw [bw_ck, if_neg (by omega)]
theorem yr_exL {post : SY → Prop} {j : Nat} (hN : N ≤ 6) (hj : j < 64) : ∀ k p b, N ≤ k + p → p ≤ 6 → bw_ck N j k p = true → post (nI N, fs, fc, fl, m, cl, t, bw_ex N j k p b, R) → wY_exchange_2 post (nI j) (nI N) fs fc fl (k + 1) (nI p) m cl t b R := by
  intro k
  induction k with
  | zero =>
    intro p b h hp6 hc hp
    exact br_t (nI_le (by omega) (by omega)) hp
  | succ k ih =>
    intro p b h hp6 hc hp
    by_cases h1 : N ≤ p
    · rw [bw_exE (by omega)] at hp
      exact br_t (nI_le (by omega) (by omega)) hp
    · refine br_f (nI_ge (by omega) (by omega)) ?_
      cases hb : bw_b j p with
      | true =>
        rw [yr_ckT (by omega) hb] at hc
        refine br_t (bw_bt (by omega) (by omega) hb) (nm_r (nI_1 p) (ih (p + 1) b (by omega) (by omega) hc ?_))
        by_cases h2 : p + 1 < N
        · rw [bw_exT h2 hb] at hp; exact hp
        · rw [bw_exE (by omega)] at hp ⊢; exact hp
      | false =>
        by_cases h2 : p + 1 < N
        · cases hb1 : bw_b j (p + 1) with
          | true => rw [yr_ckN h2 hb hb1] at hc; exact absurd hc (by decide)
          | false =>
            rw [yr_ckF h2 hb hb1] at hc
            rw [bw_exF h2 hb] at hp
            have hi : vp_in (nI p) 6 := vp_in_nI (by omega) (by omega)
            have hi1 : vp_in (nI p + 1) 6 := by rw [nI_1]; exact vp_in_nI (by omega) (by omega)
            exact br_f (by rw [bw_bf (by omega) (by omega) hb]; exact bw_01) ⟨hi, nm_e ⟨hi1, hi, nm_e ⟨hi1, nm_r (xr_sw (by omega)) (nm_r (nI_add p 2) (ih (p + 2) _ (by omega) (by omega) hc hp))⟩⟩⟩
        · rw [yr_ckE (by omega) (by omega) hb] at hc; exact absurd hc (by decide)
theorem yr_exch {post : SY → Prop} {x : Int32} (hN : N ≤ 6) (hx : bw_Ch N x) (hB : bw_Ro N B g) (hp : ∀ B', bw_Ro N B' (fun q => g (bw_sg N x q)) → post (nI N, fs, fc, fl, m, cl, t, B', R)) : wpY_exchange post (nI N, fs, fc, fl, m, cl, t, B, R) x := by
  obtain ⟨j, hj, rfl, hc⟩ := hx
  exact ⟨8, yr_exL hN (bw_p6 hN hj) 7 0 B (by omega) (by omega) hc (hp _ (bw_RoX hN hj hc hB))⟩
theorem yr_40 {post : SY → Prop} {J : Int32 → Int32 → Int32 → Int32 → Int32 → (Nat → Int32) → (Nat → Int32) → (Nat → Int32) → (Nat → Int32) → (Nat → Int32) → Prop} {x1 x : Int32} {l i : Nat} (hN : N ≤ 6) (hr : l + 1 < 260) (hx : bw_Ch N x) (hB : bw_Ro N B g) (hp : ∀ B', bw_Ro N B' (fun q => g (bw_sg N x q)) → J (nI (i + 1)) (nI N) fs fc (nI (l + 1)) m cl t B' (upd R (l + 1) (nI (bw_cd (fun q => g (bw_sg N x q)) N)))) : wY_ring_40 post J x1 (nI i) x (nI N) fs fc (nI l) m cl t B R := by
  unfold wY_ring_40
  refine yr_exch hN hx hB (fun B' hB' => ?_)
  refine nm_r (nI_1 l) ?_
  refine yr_code hN hB' ?_
  refine ⟨vp_in_nI hr (by omega), nm_r (e' := upd R (l + 1) (nI (bw_cd (fun q => g (bw_sg N x q)) N))) ?_ (nm_r (nI_1 i) (hp B' hB'))⟩
  rw [nI_clamp (by omega)]
theorem yr_ldL {post : SY → Prop} {s x rb : Nat} {gs : Nat → (Nat → Nat)} {R0 : Nat → Int32} (H : bw_St N s m cl) (hx : x < 3) (hr : rb + s < 260) (hg : ∀ j, j < s → gs (j + 1) = fun q => gs j (bw_sg N (bw_st s m cl x j) q)) (hp : ∀ B' R', bw_Ro N B' (gs s) → (∀ q, q ≤ rb → R' q = R0 q) → (∀ q, q < s → R' (rb + 1 + q) = nI (bw_cd (gs (q + 1)) N)) → post (nI N, nI s, fc, nI (rb + s), m, cl, t, B', R')) : ∀ k i, i + k = s → ∀ R B, bw_Ro N B (gs i) → (∀ q, q ≤ rb → R q = R0 q) → (∀ q, q < i → R (rb + 1 + q) = nI (bw_cd (gs (q + 1)) N)) → wY_ring_2 post (nI x) (k + 1) (nI i) (nI N) (nI s) fc (nI (rb + i)) m cl t B R := by
  intro k
  have h6 := H.2.1
  have h12 := H.2.2.2.1
  induction k with
  | zero =>
    intro i h R B hB h1 h2
    obtain rfl : i = s := by omega
    exact br_t (nI_le (Nat.le_refl _) (by omega)) (hp B R hB h1 h2)
  | succ k ih =>
    intro i h R B hB h1 h2
    have hc := bw_stC H hx (show i < s by omega)
    have body : ∀ y : Int32, y = bw_st s m cl x i → wY_ring_40 post (wY_ring_2 post (nI x) (k + 1)) (nI x) (nI i) y (nI N) (nI s) fc (nI (rb + i)) m cl t B R := by
      intro y ey
      subst ey
      refine yr_40 h6 (by omega) hc hB (fun B' hB' => ?_)
      rw [← hg i (by omega)] at hB' ⊢
      refine ih (i + 1) (by omega) _ B' hB' (fun q hq => ?_) (fun q hq => ?_)
      · rw [pk_un (by omega)]; exact h1 q hq
      · by_cases e : q = i
        · subst e
          rw [show rb + 1 + q = rb + q + 1 from by omega]; exact pk_us
        · rw [pk_un (by omega)]; exact h2 q (by omega)
    have b34 : m i = bw_st s m cl x i → wY_ring_34 post (wY_ring_2 post (nI x) (k + 1)) (nI x) (nI i) (nI N) (nI s) fc (nI (rb + i)) m cl t B R := by
      intro e
      unfold wY_ring_34
      refine ⟨vp_in_nI (by omega) (by omega), body _ ?_⟩
      rw [nI_clamp (by omega)]; exact e
    refine br_f (nI_ge (by omega) (by omega)) (pk_eq i (s - 1) (fun e => ?_) (fun e => b34 ?_) rfl ?_)
    · by_cases hx0 : x = 0
      · subst hx0
        exact br_t (nI_le (a := 0) (b := 0) (by decide) (by decide)) (b34 (by unfold bw_st; rw [if_neg (by omega)]))
      · refine br_f (nI_nle (by omega) (by omega)) ⟨vp_in_nI hx (by omega), body _ ?_⟩
        rw [nI_clamp (by omega)]
        unfold bw_st; rw [if_pos ⟨hx0, by omega⟩]
    · unfold bw_st; rw [if_neg (by omega)]
    · exact pk_sub (b := 1) (by omega)
theorem yr_lead {post : SY → Prop} {s x rb : Nat} {gs : Nat → (Nat → Nat)} (H : bw_St N s m cl) (hx : x < 3) (hr : rb + s < 260) (hg : ∀ j, j < s → gs (j + 1) = fun q => gs j (bw_sg N (bw_st s m cl x j) q)) (hB : bw_Ro N B (gs 0)) (hp : ∀ B' R', bw_Ro N B' (gs s) → (∀ q, q ≤ rb → R' q = R q) → (∀ q, q < s → R' (rb + 1 + q) = nI (bw_cd (gs (q + 1)) N)) → post (nI N, nI s, fc, nI (rb + s), m, cl, t, B', R')) : wpY_ring post (nI N, nI s, fc, nI rb, m, cl, t, B, R) (nI x) :=
  ⟨s + 1, yr_ldL H hx hr hg hp s 0 (by omega) R B hB (fun _ _ => rfl) (fun _ h => absurd h (Nat.not_lt_zero _))⟩
end
section
variable {N s c : Nat} {fl : Int32} {m cl t R B : Nat → Int32} {tc : Nat → Nat}
theorem yr_tl {post : SY → Prop} (H : bw_St N s m cl) (h3 : ∀ i, tc i < 3) (hc : c ≤ 20) (ht : ∀ i, i < c → t i = nI (tc i)) (hp : ∀ B' R', bw_Ro N B' (bw_gs N s m cl tc (c * s)) → (∀ q, q ≤ c * s → R' q = bw_F N s m cl tc q) → post (nI N, nI s, nI c, nI (c * s), m, cl, t, B', R')) : ∀ k i, i + k = c → ∀ R B, bw_Ro N B (bw_gs N s m cl tc (i * s)) → (∀ q, q ≤ i * s → R q = bw_F N s m cl tc q) → wY_write_21 post (k + 1) (nI i) (nI N) (nI s) (nI c) (nI (i * s)) m cl t B R := by
  intro k
  have h12 := H.2.2.2.1
  induction k with
  | zero =>
    intro i h R B hB hR
    obtain rfl : i = c := by omega
    exact br_t (nI_le (Nat.le_refl _) (by omega)) (hp B R hB hR)
  | succ k ih =>
    intro i h R B hB hR
    have hb := bw_cs (i := i + 1) hc h12 (by omega)
    have e : (i + 1) * s = i * s + s := by rw [Nat.add_mul, Nat.one_mul]
    refine br_f (nI_ge (by omega) (by omega)) ⟨vp_in_nI (by omega) (by omega), ?_⟩
    rw [nI_clamp (by omega), ht i (by omega)]
    refine yr_lead (gs := fun j => bw_gs N s m cl tc (i * s + j)) H (h3 i) (by omega) (fun j hj => bw_gsS hj) hB (fun B' R' hB' h1 h2 => ?_)
    refine nm_r (nI_1 i) ?_
    rw [← e] at hB' ⊢
    exact ih (i + 1) (by omega) R' B' hB' (bw_ext hR h1 h2)
theorem yr_write {post : SY → Prop} (H : bw_St N s m cl) (h3 : ∀ i, tc i < 3) (hc : c ≤ 20) (ht : ∀ i, i < c → t i = nI (tc i)) (hp : ∀ B' R', bw_Ro N B' (bw_gs N s m cl tc (c * s)) → (∀ q, q ≤ c * s → R' q = bw_F N s m cl tc q) → post (nI N, nI s, nI c, nI (c * s), m, cl, t, B', R')) : wpY_write post (nI N, nI s, nI c, fl, m, cl, t, B, R) := by
  refine yr_round H.2.1 (fun B' hB' => ?_)
  refine yr_code H.2.1 hB' (nm_e ?_)
  have h := yr_tl H h3 hc ht hp c 0 (by omega) (upd R 0 (nI (bw_cd (fun q => q) N))) B' (by rw [Nat.zero_mul]; exact hB') (fun q hq => by
    rw [Nat.zero_mul] at hq
    obtain rfl : q = 0 := by omega
    exact pk_us)
  rw [Nat.zero_mul] at h
  exact ⟨c + 1, h⟩
end
