/-! the relation; the calls that change the state -/
def i_Rel (_ : Nat) (u : SX) (v : SY) : Prop := ∃ (N s c : Nat) (m cl t RX BX BY RY : Nat → Int32) (l : Int32), bw_St N s m cl ∧ c ≤ 20 ∧ (∀ i, i < c → ∃ x : Nat, x < 3 ∧ t i = nI x) ∧ u = (nI N, nI s, nI c, m, cl, t, RX, BX) ∧ v = (nI N, nI s, nI c, l, m, cl, t, BY, RY)
theorem bw_mk {k N s c : Nat} {m cl t RX BX BY RY : Nat → Int32} {l : Int32} (H : bw_St N s m cl) (hc : c ≤ 20) (ht : ∀ i, i < c → ∃ x : Nat, x < 3 ∧ t i = nI x) : i_Rel k (nI N, nI s, nI c, m, cl, t, RX, BX) (nI N, nI s, nI c, l, m, cl, t, BY, RY) :=
  ⟨N, s, c, m, cl, t, RX, BX, BY, RY, l, H, hc, ht, rfl, rfl⟩
theorem i_up {k : Nat} {u : SX} {v : SY} (h : i_Rel k u v) : i_Rel (k + 3) u v := h
theorem bw_p64 {N : Nat} (hN : N ≤ 6) : 2 ^ N ≤ 64 := Nat.pow_le_pow_right (n := 2) (j := 6) (by decide) hN
theorem bw_pw {N : Nat} (hN : N ≤ 6) : (1 : Int32) <<< (nI N &&& 31) = nI (2 ^ N) := by
  have h := bw_p64 hN
  have e := pk_shlN (n := 1) (nI N &&& 31) N (s_l N (by omega)) (by omega)
  rw [Nat.one_mul] at e
  exact e
section
variable {N : Nat} {fs fc fl : Int32} {m cl t R B : Nat → Int32}
theorem xr_icL {post : Int32 → Prop} {j : Nat} (hN : N ≤ 6) (hj : j < 64) : ∀ k p, N ≤ k + p → p ≤ 6 → (bw_ck N j k p = true → post 1) → (bw_ck N j k p = false → post 0) → wX_isChange_18 post (nI j) (nI N) fc fl m cl t R B (k + 1) (nI p) := by
  intro k
  induction k with
  | zero =>
    intro p h hp6 h1 h0
    exact br_t (nI_le (by omega) (by omega)) (h1 rfl)
  | succ k ih =>
    intro p h hp6 h1 h0
    by_cases hn : N ≤ p
    · exact br_t (nI_le (by omega) (by omega)) (h1 (yr_ckO hn))
    · refine br_f (nI_ge (by omega) (by omega)) ?_
      cases hb : bw_b j p with
      | true =>
        rw [yr_ckT (by omega) hb] at h1 h0
        exact br_t (bw_bt (by omega) (by omega) hb) (br_f bw_10 (nm_r (nI_1 p) (ih (p + 1) (by omega) (by omega) h1 h0)))
      | false =>
        refine br_f (by rw [bw_bf (by omega) (by omega) hb]; exact bw_01) (br_t rfl (nm_r (nI_1 p) ?_))
        by_cases h2 : p + 1 < N
        · refine br_f (nI_ge (by omega) (by omega)) ?_
          cases hb1 : bw_b j (p + 1) with
          | true => exact br_t (bw_bt (by omega) (by omega) hb1) (br_f bw_10 (h0 (yr_ckN h2 hb hb1)))
          | false =>
            rw [yr_ckF h2 hb hb1] at h1 h0
            exact br_f (by rw [bw_bf (by omega) (by omega) hb1]; exact bw_01) (br_t rfl (nm_r (nI_1 (p + 1)) (ih (p + 2) (by omega) (by omega) h1 h0)))
        · exact br_t (nI_le (by omega) (by omega)) (h0 (yr_ckE (by omega) (by omega) hb))
theorem yr_icL {post : Int32 → Prop} {j : Nat} (hN : N ≤ 6) (hj : j < 64) : ∀ k p, N ≤ k + p → p ≤ 6 → (bw_ck N j k p = true → post 1) → (bw_ck N j k p = false → post 0) → wY_isChange_18 post (nI j) (nI N) fs fc fl m cl t B R (k + 1) (nI p) := by
  intro k
  induction k with
  | zero =>
    intro p h hp6 h1 h0
    exact br_t (nI_le (by omega) (by omega)) (h1 rfl)
  | succ k ih =>
    intro p h hp6 h1 h0
    by_cases hn : N ≤ p
    · exact br_t (nI_le (by omega) (by omega)) (h1 (yr_ckO hn))
    · refine br_f (nI_ge (by omega) (by omega)) ?_
      cases hb : bw_b j p with
      | true =>
        rw [yr_ckT (by omega) hb] at h1 h0
        exact br_t (bw_bt (by omega) (by omega) hb) (nm_r (nI_1 p) (ih (p + 1) (by omega) (by omega) h1 h0))
      | false =>
        refine br_f (by rw [bw_bf (by omega) (by omega) hb]; exact bw_01) ?_
        rw [nI_1 p]
        by_cases h2 : p + 1 < N
        · refine br_f (nI_ge (by omega) (by omega)) ?_
          cases hb1 : bw_b j (p + 1) with
          | true => exact br_f (by rw [bw_bt (by omega) (by omega) hb1]; exact bw_10) (h0 (yr_ckN h2 hb hb1))
          | false =>
            rw [yr_ckF h2 hb hb1] at h1 h0
            exact br_t (bw_bf (by omega) (by omega) hb1) (nm_r (nI_add p 2) (ih (p + 2) (by omega) (by omega) h1 h0))
        · exact br_t (nI_le (by omega) (by omega)) (h0 (yr_ckE (by omega) (by omega) hb))
theorem bw_nCh0 {x : Int32} (hN : N ≤ 6) (h : x < 0) : ¬ bw_Ch N x := by
  intro ⟨j, hj, e, _⟩
  have := bw_p6 hN hj
  rw [e] at h
  exact nI_pos (by omega) h
theorem bw_nCh1 {j : Nat} (hN : N ≤ 6) (hj : j < 2 ^ 31) (h : 2 ^ N ≤ j) : ¬ bw_Ch N (nI j) := by
  intro ⟨i, hi, e, _⟩
  have := bw_p6 hN hi
  rw [nI_eq hj (by omega)] at e
  omega
theorem bw_nCh2 {j : Nat} (hN : N ≤ 6) (hj : j < 2 ^ 31) (h : bw_ck N j 7 0 = false) : ¬ bw_Ch N (nI j) := by
  intro ⟨i, hi, e, hc⟩
  have := bw_p6 hN hi
  rw [nI_eq hj (by omega)] at e
  subst e
  rw [h] at hc
  exact absurd hc (by decide)
theorem xr_isC {post : Int32 → Prop} {x : Int32} (hN : N ≤ 6) (h1 : bw_Ch N x → post 1) (h0 : ¬ bw_Ch N x → post 0) : wpX_isChange post (nI N, fc, fl, m, cl, t, R, B) x := by
  by_cases hx : x < 0
  · exact br_t hx (h0 (bw_nCh0 hN hx))
  · obtain ⟨j, hj, rfl⟩ := nI_of hx
    have h64 := bw_p64 hN
    refine br_f hx ?_
    rw [bw_pw hN]
    exact pk_lt j (2 ^ N) (fun h => ⟨8, xr_icL hN (by omega) 7 0 (by omega) (by omega) (fun e => h1 ⟨j, h, rfl, e⟩) (fun e => h0 (bw_nCh2 hN hj e))⟩) (fun h => h0 (bw_nCh1 hN hj h))
theorem yr_isC {post : Int32 → Prop} {x : Int32} (hN : N ≤ 6) (h1 : bw_Ch N x → post 1) (h0 : ¬ bw_Ch N x → post 0) : wpY_isChange post (nI N, fs, fc, fl, m, cl, t, B, R) x := by
  by_cases hx : x < 0
  · exact br_t hx (h0 (bw_nCh0 hN hx))
  · obtain ⟨j, hj, rfl⟩ := nI_of hx
    have h64 := bw_p64 hN
    refine br_f hx ?_
    rw [bw_pw hN]
    exact pk_lt j (2 ^ N) (fun h => ⟨8, yr_icL hN (by omega) 7 0 (by omega) (by omega) (fun e => h1 ⟨j, h, rfl, e⟩) (fun e => h0 (bw_nCh2 hN hj e))⟩) (fun h => h0 (bw_nCh1 hN hj h))
end
theorem bw_all : ∀ N, N < 7 → bw_ck N (2 ^ N - 1) 7 0 = true := by decide +kernel
theorem bw_new {N : Nat} (h3 : 3 ≤ N) (hN : N ≤ 6) : bw_St N 1 (upd (fun _ => 0) 0 (nI (2 ^ N - 1))) (upd (upd (fun _ => 0) 1 (nI (2 ^ N - 1))) 2 (nI (2 ^ N - 1))) := by
  have hC : bw_Ch N (nI (2 ^ N - 1)) := ⟨2 ^ N - 1, by have := Nat.two_pow_pos N; omega, rfl, bw_all N (by omega)⟩
  refine ⟨h3, hN, by omega, by omega, fun i hi => ?_, ?_, ?_⟩
  · obtain rfl : i = 0 := by omega
    rw [pk_us]; exact hC
  · rw [pk_un (by omega), pk_us]; exact hC
  · rw [pk_us]; exact hC
theorem bw_A {N : Nat} (hN : N ≤ 6) : ((1 : Int32) <<< (nI N &&& 31)) - 1 = nI (2 ^ N - 1) := by
  rw [bw_pw hN]
  exact pk_sub (b := 1) (Nat.two_pow_pos N)
theorem xr_new {N : Nat} {post : SX → Prop} (hN : N ≤ 6) (hp : post (nI N, nI 1, nI 0, upd (fun _ => 0) 0 (nI (2 ^ N - 1)), upd (upd (fun _ => 0) 1 (nI (2 ^ N - 1))) 2 (nI (2 ^ N - 1)), fun _ => 0, fun _ => 0, fun _ => 0)) : wX_init_71 post (nI N) 0 0 (fun _ => 0) (fun _ => 0) (fun _ => 0) (fun _ => 0) (fun _ => 0) :=
  nm_r (bw_A hN) (nm_e (nm_e (nm_e hp)))
theorem yr_new {N : Nat} {post : SY → Prop} (hN : N ≤ 6) (hp : post (nI N, nI 1, nI 0, 0, upd (fun _ => 0) 0 (nI (2 ^ N - 1)), upd (upd (fun _ => 0) 1 (nI (2 ^ N - 1))) 2 (nI (2 ^ N - 1)), fun _ => 0, fun _ => 0, fun _ => 0)) : wY_init_71 post (nI N) 0 1 0 0 (fun _ => 0) (fun _ => 0) (fun _ => 0) (fun _ => 0) (fun _ => 0) := by
  unfold wY_init_71
  rw [bw_A hN]
  exact nm_e (nm_e (nm_e hp))
theorem bw_newR {N : Nat} (h3 : 3 ≤ N) (hN : N ≤ 6) : i_Rel 1 (nI N, nI 1, nI 0, upd (fun _ => 0) 0 (nI (2 ^ N - 1)), upd (upd (fun _ => 0) 1 (nI (2 ^ N - 1))) 2 (nI (2 ^ N - 1)), fun _ => 0, fun _ => 0, fun _ => 0) (nI N, nI 1, nI 0, 0, upd (fun _ => 0) 0 (nI (2 ^ N - 1)), upd (upd (fun _ => 0) 1 (nI (2 ^ N - 1))) 2 (nI (2 ^ N - 1)), fun _ => 0, fun _ => 0, fun _ => 0) :=
  bw_mk (bw_new h3 hN) (by omega) (fun i hi => absurd hi (Nat.not_lt_zero _))
theorem i_vc0 (k0 : Int32) : wpX_init (fun u => wpY_init (fun v => i_Rel 1 u v) k0) k0 := by
  by_cases h3 : (3 : Int32) ≤ k0
  · by_cases h6 : k0 ≤ 6
    · have h0 : ¬ k0 < 0 := by
        intro z
        exact absurd (Int32.lt_of_le_of_lt h3 z) (by decide)
      obtain ⟨j, hj, rfl⟩ := nI_of2 (M := 6) (n := 6) (by decide) h0 h6
      have hj3 : 3 ≤ j := (nI_leI (a := 3) (by decide) (by omega)).mp h3
      exact br_t h3 (br_t h6 (xr_new hj (br_t h3 (br_t h6 (yr_new hj (bw_newR hj3 hj))))))
    · exact br_t h3 (br_f h6 (xr_new (N := 6) (by decide) (br_t h3 (br_f h6 (yr_new (N := 6) (by decide) (bw_newR (by decide) (by decide)))))))
  · have h6 : k0 ≤ 6 := Int32.le_of_lt (Int32.lt_trans (Int32.not_le.mp h3) (by decide))
    exact br_f h3 (br_t h6 (xr_new (N := 3) (by decide) (br_f h3 (yr_new (N := 3) (by decide) (bw_newR (by decide) (by decide))))))
theorem i_vc_change {k : Nat} {u : SX} {v : SY} (I : i_Rel k u v) (hk : k + 3 ≤ 1537) (v1 : Int32) : wpX_change (fun r u' => wpY_change (fun r' v' => r' = r ∧ i_Rel (k + 3) u' v') v v1) u v1 := by
  obtain ⟨N, s, c, m, cl, t, RX, BX, BY, RY, l, H, hc, ht, rfl, rfl⟩ := I
  have h6 := H.2.1
  have h12 := H.2.2.2.1
  unfold wpX_change wpY_change
  dsimp only
  refine xr_isC h6 (fun h1 => br_f bw_10 ?_) (fun h0 => br_t rfl ?_)
  · refine pk_lt s 12 (fun h => ⟨vp_in_nI h (by omega), nm_r (e' := upd m s v1) (by rw [nI_clamp (by omega)]) (nm_r (nI_1 s) ?_)⟩) (fun h => ?_)
    · refine yr_isC h6 (fun _ => br_f bw_10 (br_f ?_ ⟨vp_in_nI h (by omega), nm_r (e' := upd m s v1) (by rw [nI_clamp (by omega)]) (nm_r (nI_1 s) ⟨rfl, bw_mk ?_ hc ht⟩)⟩)) (fun h0 => absurd h1 h0)
      · intro z
        exact absurd ((nI_eq (b := 12) (by omega) (by decide)).mp z) (by omega)
      · refine ⟨H.1, H.2.1, by omega, by omega, fun i hi => ?_, H.2.2.2.2.2⟩
        by_cases e : i = s
        · subst e; rw [pk_us]; exact h1
        · rw [pk_un e]; exact H.2.2.2.2.1 i (by omega)
    · obtain rfl : s = 12 := by omega
      exact yr_isC h6 (fun _ => br_f bw_10 (br_t rfl ⟨rfl, bw_mk H hc ht⟩)) (fun h0 => absurd h1 h0)
  · exact yr_isC h6 (fun h1 => absurd h1 h0) (fun _ => br_t rfl ⟨rfl, bw_mk H hc ht⟩)
theorem i_vc_call {k : Nat} {u : SX} {v : SY} (I : i_Rel k u v) (hk : k + 3 ≤ 1537) (v1 : Int32) (v2 : Int32) : wpX_call (fun r u' => wpY_call (fun r' v' => r' = r ∧ i_Rel (k + 3) u' v') v v1 v2) u v1 v2 := by
  obtain ⟨N, s, c, m, cl, t, RX, BX, BY, RY, l, H, hc, ht, rfl, rfl⟩ := I
  have h6 := H.2.1
  by_cases hx : v1 < 1
  · exact br_t hx (br_t hx ⟨rfl, bw_mk H hc ht⟩)
  · have hx0 : ¬ v1 < 0 := fun z => hx (Int32.lt_trans z (by decide))
    obtain ⟨y, hy, rfl⟩ := nI_of hx0
    refine br_f hx (pk_le 3 y (fun h => br_f hx (br_t (nI_lt (a := 2) (by omega) hy) ⟨rfl, bw_mk H hc ht⟩)) (fun h => ?_))
    have hy1 : 1 ≤ y := by
      refine Nat.pos_of_ne_zero (fun z => hx ?_)
      subst z
      decide
    have hi : vp_in (nI y) 3 := vp_in_nI h (by decide)
    have h2 : ¬ (2 : Int32) < nI y := nI_nlt (b := y) (a := 2) (by omega) (by decide)
    refine xr_isC h6 (fun h1 => br_f bw_10 ⟨hi, nm_r (e' := cl y) (by rw [nI_clamp hy]) ⟨hi, nm_r (e' := upd cl y v2) (by rw [nI_clamp hy]) ?_⟩⟩) (fun h0 => br_t rfl ?_)
    · refine br_f hx (br_f h2 (yr_isC h6 (fun _ => br_f bw_10 ⟨hi, nm_r (e' := cl y) (by rw [nI_clamp hy]) ⟨hi, nm_r (e' := upd cl y v2) (by rw [nI_clamp hy]) ⟨rfl, bw_mk ?_ hc ht⟩⟩⟩) (fun h0 => absurd h1 h0)))
      refine ⟨H.1, H.2.1, H.2.2.1, H.2.2.2.1, H.2.2.2.2.1, ?_, ?_⟩
      · by_cases e : 1 = y
        · subst e; rw [pk_us]; exact h1
        · rw [pk_un e]; exact H.2.2.2.2.2.1
      · by_cases e : 2 = y
        · subst e; rw [pk_us]; exact h1
        · rw [pk_un e]; exact H.2.2.2.2.2.2
    · exact br_f hx (br_f h2 (yr_isC h6 (fun h1 => absurd h1 h0) (fun _ => br_t rfl ⟨rfl, bw_mk H hc ht⟩)))
