theorem cu_shl : ∀ l, l < 5 → (1 : Int32) <<< (nI l &&& 31) = nI (2 ^ l) ∧ (1 : Int32) <<< ((nI l &&& 7) &&& 31) = nI (2 ^ l) := by decide +kernel
theorem cu_shr : ∀ l, l < 5 → (16 : Int32) >>> (nI l &&& 31) = nI (cu_w l) ∧ (16 : Int32) >>> ((nI l &&& 7) &&& 31) = nI (cu_w l) ∧ (256 : Int32) >>> ((2 * nI l) &&& 31) = nI (cu_L l) ∧ nI (cu_w l) * nI (cu_w l) = nI (cu_L l) := by decide +kernel
theorem cu_neg : ∀ l, l < 5 → ∀ n, n < 256 → nI n &&& (-(nI (cu_L l))) = nI (n / cu_L l * cu_L l) := by decide +kernel
theorem cu_gD : ∀ l, l < 5 → ∀ a, a < 2 ^ l → a * cu_w l < 16 ∧ (a + 1) * cu_w l ≤ 16 := by decide +kernel
theorem cu_p2 : ∀ l, l < 5 → 2 ^ l ≤ 16 ∧ cu_w l ≤ 16 ∧ cu_L l ≤ 256 := by decide +kernel
theorem cu_dv {x w a : Nat} (hw : 0 < w) : x / w = a ↔ a * w ≤ x ∧ x < (a + 1) * w := by
  constructor
  · rintro rfl
    exact ⟨Nat.div_mul_le_self x w, (Nat.div_lt_iff_lt_mul hw).mp (Nat.lt_succ_self _)⟩
  · rintro ⟨h1, h2⟩
    exact Nat.div_eq_of_lt_le h1 h2
theorem cu_bz (v : Int32) : lw_bz v = cu_b (!decide (v = 0)) := by
  unfold lw_bz
  by_cases h : v = 0
  · rw [if_pos h, decide_eq_true h]; rfl
  · rw [if_neg h, decide_eq_false h]; rfl
/-- inSquare -/
theorem cu_yin {post : Int32 → Prop} {A B C D : Nat → Int32} {c l a b : Nat} (hc : c < 256) (hl : l < 5) (ha : a < 2 ^ l) (hb : b < 2 ^ l) (h : post (cu_b (decide (cu_q c / cu_L l = cu_f l a b)))) : wpY_inSquare post (A, B, C, D) (nI c) (nI l) (nI a) (nI b) := by
  have hg := cu_geo hl hc ha hb
  rw [cu_dv (cu_wpos l), cu_dv (cu_wpos l)] at hg
  have e1 : nI c / 16 = nI (c / 16) := pk_div (d := 16) (by omega) (by decide) (by decide)
  have e2 : nI c - nI c / 16 * 16 = nI (c % 16) := pk_rem (d := 16) (by omega) (by decide) (by decide)
  have e5 : (nI a + 1) * nI (cu_w l) = nI ((a + 1) * cu_w l) := by rw [nI_1, pk_mul]
  have e6 : (nI b + 1) * nI (cu_w l) = nI ((b + 1) * cu_w l) := by rw [nI_1, pk_mul]
  have d1 := cu_gD l hl a ha
  have d2 := cu_gD l hl b hb
  have no : ¬ (a * cu_w l ≤ c / 16 ∧ c / 16 < (a + 1) * cu_w l ∧ b * cu_w l ≤ c % 16 ∧ c % 16 < (b + 1) * cu_w l) → post 0 := by
    intro z
    have e : decide (cu_q c / cu_L l = cu_f l a b) = false := decide_eq_false (fun y => z (by
      have := hg.mpr y
      exact ⟨this.1.1, this.1.2, this.2.1, this.2.2⟩))
    rw [e] at h
    exact h
  refine nm_r (cu_shr l hl).1 ⟨by decide, pk_lt (c / 16) (a * cu_w l) (fun z => no (fun y => by omega)) (fun z1 => ⟨by decide, pk_le ((a + 1) * cu_w l) (c / 16) (fun z => no (fun y => by omega)) (fun z2 => ⟨by decide, ?_⟩) e5 e1⟩) e1 (pk_mul _ _)⟩
  refine pk_lt (c % 16) (b * cu_w l) (fun z => no (fun y => by omega)) (fun z3 => ⟨by decide, pk_le ((b + 1) * cu_w l) (c % 16) (fun z => no (fun y => by omega)) (fun z4 => ?_) e6 e2⟩) e2 (pk_mul _ _)
  have e : decide (cu_q c / cu_L l = cu_f l a b) = true := decide_eq_true (hg.mp ⟨⟨z1, z2⟩, z3, z4⟩)
  rw [e] at h
  exact h
/-- a square's parts -/
theorem cu_lev {post : Int32 → Prop} {j : Nat} (hj : j < 2 ^ 31) (h : post (nI (j / 1024))) : wpX_levelOf post (nI j) := by
  have e : nI j / 1024 = nI (j / 1024) := pk_div (d := 1024) hj (by decide) (by decide)
  refine ⟨by decide, ?_⟩
  rw [e]; exact h
theorem cu_e32 {j : Nat} (hj : j < 2 ^ 31) : nI j / 32 - nI j / 32 / 32 * 32 = nI (j / 32 % 32) := by
  have e : nI j / 32 = nI (j / 32) := pk_div (d := 32) hj (by decide) (by decide)
  rw [e]
  exact pk_rem (d := 32) (by omega) (by decide) (by decide)
theorem cu_r32 {j : Nat} (hj : j < 2 ^ 31) : nI j - nI j / 32 * 32 = nI (j % 32) := pk_rem (d := 32) hj (by decide) (by decide)
theorem cu_col {post : Int32 → Prop} {j : Nat} (hj : j < 2 ^ 31) (h : post (nI (j / 32 % 32))) : wpX_columnOf post (nI j) := by
  refine ⟨by decide, by decide, ?_⟩
  rw [cu_e32 hj]; exact h
theorem cu_row {post : Int32 → Prop} {j : Nat} (hj : j < 2 ^ 31) (h : post (nI (j % 32))) : wpX_rowOf post (nI j) := by
  refine ⟨by decide, ?_⟩
  rw [cu_r32 hj]; exact h
/-- isSquare -/
def cu_sq (j : Nat) : Bool := decide (j / 1024 < 5 ∧ j / 32 % 32 < 2 ^ (j / 1024) ∧ j % 32 < 2 ^ (j / 1024))
theorem cu_xsq {post : Int32 → Prop} {j : Nat} (hj : j < 2 ^ 31) (h : post (cu_b (cu_sq j))) : wpX_isSquare post (nI j) := by
  have no : ¬ (j / 1024 < 5 ∧ j / 32 % 32 < 2 ^ (j / 1024) ∧ j % 32 < 2 ^ (j / 1024)) → post 0 := by
    intro z
    have e : cu_sq j = false := decide_eq_false z
    rw [e] at h
    exact h
  refine br_f (nI_pos hj) (cu_lev hj (pk_le (j / 1024) 4 (fun hl => cu_lev hj ?_) (fun z => no (fun y => by omega))))
  have hp := cu_p2 (j / 1024) (by omega)
  refine nm_r (cu_shl (j / 1024) (by omega)).1 (cu_col hj (pk_le (2 ^ (j / 1024)) (j / 32 % 32) (fun z => no (fun y => by omega)) (fun z1 => cu_row hj (pk_le (2 ^ (j / 1024)) (j % 32) (fun z => no (fun y => by omega)) (fun z2 => ?_)))))
  have e : cu_sq j = true := decide_eq_true ⟨by omega, z1, z2⟩
  rw [e] at h
  exact h
theorem cu_first {post : Int32 → Prop} {j : Nat} (hj : j < 2 ^ 31) (hl : j / 1024 < 5) (ha : j / 32 % 32 < 2 ^ (j / 1024)) (hb : j % 32 < 2 ^ (j / 1024))
    (h : post (nI (cu_f (j / 1024) (j / 32 % 32) (j % 32) * cu_L (j / 1024)))) : wpX_firstNumber post (nI j) := by
  have h' := h
  rw [cu_f, ← cu_neg _ hl _ (cu_qlt _), ← (cu_shr _ hl).2.2.2] at h'
  exact cu_lev hj (nm_r (cu_shr _ hl).1 (cu_col hj (nm_r (pk_mul _ _) (cu_row hj (nm_r (pk_mul _ _) (cu_xnum (cu_gD _ hl _ ha).1 (cu_gD _ hl _ hb).1 h'))))))
theorem cu_fill {post : SX → Prop} {a b : Nat → Int32} {j : Nat} {x : Bool} {T : Nat → Bool} (hj : j < 2 ^ 31) (hl : j / 1024 < 5) (ha : j / 32 % 32 < 2 ^ (j / 1024)) (hb : j % 32 < 2 ^ (j / 1024))
    (hT : ∀ n, n < 256 → a (1024 + n) = cu_b (T n))
    (hp : ∀ a', (∀ n, n < 256 → a' (1024 + n) = cu_b (if n / cu_L (j / 1024) = cu_f (j / 1024) (j / 32 % 32) (j % 32) then x else T n)) → (∀ i, i < 1024 → a' i = a i) → post (a', b)) : wpX_fillDraft post (a, b) (nI j) (cu_b x) := by
  unfold wpX_fillDraft
  have hf := cu_flt _ hl _ ha _ hb
  have hp2 := cu_p2 _ hl
  refine cu_first hj hl ha hb (cu_lev hj ?_)
  unfold wpX_squareLength
  rw [(cu_shr _ hl).2.2.1]
  generalize cu_f (j / 1024) (j / 32 % 32) (j % 32) = f at *
  have hLp := cu_Lpos (j / 1024)
  generalize cu_L (j / 1024) = L at *
  have hfL : (f + 1) * L = f * L + L := Nat.succ_mul f L
  refine loop_0 (fun n i a' => wX_fillDraft_21 post (cu_b x) (nI (f * L)) (nI L) n (nI i) a' b) (fun i a' => (∀ n, n < 256 → a' (1024 + n) = cu_b (if f * L ≤ n ∧ n < f * L + i then x else T n)) ∧ (∀ i, i < 1024 → a' i = a i)) L a ⟨fun n hn => ?_, fun _ _ => rfl⟩ ?_ ?_
  · rw [if_neg (by omega)]; exact hT n hn
  · rintro n a' ⟨h1, h2⟩
    refine br_t (nI_le (Nat.le_refl _) (by omega)) (hp a' (fun n hn => ?_) h2)
    rw [h1 n hn]
    by_cases z : f * L ≤ n ∧ n < f * L + L
    · rw [if_pos z, if_pos ((cu_dv hLp).mpr (by omega))]
    · rw [if_neg z, if_neg (fun y => z (by have := (cu_dv hLp).mp y; omega))]
  · rintro n i a' hi ⟨h1, h2⟩ ih
    refine br_f (nI_ge hi (by omega)) ⟨pk_in (1024 + (f * L + i)) 1280 (by omega) (cu_id _ _), ?_⟩
    refine nm_r (e' := upd a' (1024 + (f * L + i)) (cu_b x)) (by rw [cu_nar, pk_cl (1024 + (f * L + i)) (cu_id _ _) (by omega)]) (nm_r (nI_1 i) (ih _ ⟨fun m hm => ?_, fun m hm => ?_⟩))
    · by_cases z : m = f * L + i
      · subst z
        rw [pk_us, if_pos (by omega)]
      · rw [pk_un (by omega), h1 m hm]
        by_cases y : f * L ≤ m ∧ m < f * L + i
        · rw [if_pos y, if_pos (by omega)]
        · rw [if_neg y, if_neg (by omega)]
    · rw [pk_un (by omega)]; exact h2 m hm
theorem cu_ychBad {post : Int32 → SY → Prop} {A B C D : Nat → Int32} {v1 x : Int32} {j : Nat} (hj : j < 2 ^ 31) (hs : cu_is v1 = true) (h : cu_sq j = false) (hp : post (-1) (A, B, C, D)) : wpY_change post (A, B, C, D) v1 (nI j) x := by
  have e : nI j / 1024 = nI (j / 1024) := pk_div (d := 1024) hj (by decide) (by decide)
  have no := of_decide_eq_false h
  refine ⟨by decide, nm_r e ⟨by decide, by decide, nm_r (cu_e32 hj) ⟨by decide, nm_r (cu_r32 hj) (cu_yis ?_)⟩⟩⟩
  rw [hs]
  refine br_f (by decide) (br_f (nI_pos hj) (pk_lt 4 (j / 1024) (fun _ => hp) (fun hl => ?_)))
  have hp2 := cu_p2 (j / 1024) (by omega)
  rw [(cu_shl (j / 1024) (by omega)).2]
  exact pk_le (2 ^ (j / 1024)) (j / 32 % 32) (fun _ => hp) (fun z1 => pk_lt (j % 32) (2 ^ (j / 1024)) (fun z2 => absurd ⟨by omega, z1, z2⟩ no) (fun _ => hp))
theorem cu_ychange {post : Int32 → SY → Prop} {A B C D : Nat → Int32} {s j : Nat} {x : Bool} {S : Nat → Nat → Bool} (hs : s < 4) (hP : cu_P B) (hM : cu_M S C) (hj : j < 2 ^ 31) (hl : j / 1024 < 5) (ha : j / 32 % 32 < 2 ^ (j / 1024)) (hb : j % 32 < 2 ^ (j / 1024))
    (T : Nat → Bool) (hT : T = fun n => if n / cu_L (j / 1024) = cu_f (j / 1024) (j / 32 % 32) (j % 32) then x else S s n)
    (h1 : 40 < cu_st T 256 → ∀ D', post (-2) (A, B, C, D')) (h2 : cu_st T 256 ≤ 40 → ∀ C' D', cu_M (cu_put S s T) C' → post (nI (cu_n T 256)) (A, B, C', D')) : wpY_change post (A, B, C, D) (nI s) (nI j) (cu_b x) := by
  have e : nI j / 1024 = nI (j / 1024) := pk_div (d := 1024) hj (by decide) (by decide)
  have hp2 := cu_p2 (j / 1024) (by omega)
  refine ⟨by decide, nm_r e ⟨by decide, by decide, nm_r (cu_e32 hj) ⟨by decide, nm_r (cu_r32 hj) (cu_yis ?_)⟩⟩⟩
  rw [cu_isN hs]
  refine br_f (by decide) (br_f (nI_pos hj) (br_f (nI_nlt (a := 4) (by omega) (by decide)) ?_))
  rw [(cu_shl (j / 1024) (by omega)).2]
  refine br_f (nI_ge ha (by omega)) (br_t (nI_lt hb (by omega)) ?_)
  refine loop_0 (fun n i D' => wY_change_69 post (nI s) (cu_b x) (nI (j / 1024)) (nI (j / 32 % 32)) (nI (j % 32)) n (nI i) A B C D') (fun i D' => ∀ c, c < i → D' c = cu_b (T (cu_q c))) 256 D lt_0 ?_ ?_
  · intro n D' g
    exact br_t (by decide) (cu_keepY hs hP hM g (fun z => h1 z D') (fun z C' hC' => h2 z C' D' hC'))
  · intro n i D' hi g ih
    have hc : (nI i).toNatClampNeg = i := nI_clamp (by omega)
    have hi2 : vp_in (nI i) 256 := vp_in_nI hi (by decide)
    refine br_f (nI_ge (b := 256) hi (by decide)) (cu_yin hi hl ha hb ?_)
    by_cases z : cu_q i / cu_L (j / 1024) = cu_f (j / 1024) (j / 32 % 32) (j % 32)
    · rw [decide_eq_true z]
      refine br_f (by decide) ⟨hi2, nm_r (e' := upd D' i (cu_b (T (cu_q i)))) (by rw [cu_nar, hc, hT]; dsimp only; rw [if_pos z]) (nm_r (nI_1 i) (ih _ (lt_s (fun c hc => ?_) pk_us)))⟩
      rw [pk_un (by omega)]; exact g c hc
    · have v : C (256 * nI s + nI i).toNatClampNeg = cu_b (S s (cu_q i)) := cu_at _ (cu_iy s i) (by omega) (hM s i hs hi)
      rw [decide_eq_false z]
      refine br_t rfl ⟨pk_in _ 1024 (by omega) (cu_iy s i), hi2, nm_r (e' := upd D' i (cu_b (T (cu_q i)))) (by rw [v, cu_nar, hc, hT]; dsimp only; rw [if_neg z]) (nm_r (nI_1 i) (ih _ (lt_s (fun c hc => ?_) pk_us)))⟩
      rw [pk_un (by omega)]; exact g c hc
theorem i_vc_change {k : Nat} {u : SX} {v : SY} (I : i_Rel k u v) (hk : k + 5 ≤ 2560) (v1 : Int32) (v2 : Int32) (v3 : Int32) : wpX_change (fun r u' => wpY_change (fun r' v' => r' = r ∧ i_Rel (k + 5) u' v') v v1 v2 (lw_bz v3)) u v1 v2 (lw_bz v3) := by
  have J := i_up I
  obtain ⟨a, b⟩ := u
  obtain ⟨A, B, C, D⟩ := v
  obtain ⟨S, hH, hp, hN, hP, hM⟩ := I
  rw [cu_bz]
  generalize (!decide (v3 = 0)) = x
  unfold wpX_change
  refine cu_xis ?_
  cases h : cu_is v1 with
  | false => exact br_t rfl ⟨by decide, nm_e ⟨by decide, by decide, nm_e ⟨by decide, nm_e (cu_yis (by rw [h]; exact br_t rfl ⟨rfl, J⟩))⟩⟩⟩
  | true =>
    refine br_f (by decide) ?_
    by_cases h0 : v2 < 0
    · refine br_t (c := v2 < 0) h0 (br_t rfl ⟨by decide, nm_e ⟨by decide, by decide, nm_e ⟨by decide, nm_e (cu_yis (by rw [h]; exact br_f (by decide) (br_t h0 ⟨rfl, J⟩)))⟩⟩⟩)
    · obtain ⟨j, hj, rfl⟩ := nI_of h0
      refine cu_xsq hj ?_
      cases hq : cu_sq j with
      | false => exact br_t rfl (cu_ychBad hj h hq ⟨rfl, J⟩)
      | true =>
        obtain ⟨s, hs, rfl⟩ := cu_isT h
        obtain ⟨hl, ha, hb⟩ := of_decide_eq_true hq
        refine br_f (by decide) (cu_copy (s := s) (t := 4) (by omega) (by decide) (by omega) (fun n hn => hH s n hs hn) (fun a1 g1 g2 => ?_))
        refine cu_fill hj hl ha hb g1 (fun a2 g3 g4 => ?_)
        have hH2 : cu_H S a2 := fun s' n hs' hn => by
          rw [g4 _ (by omega), g2 _ (by omega)]; exact hH s' n hs' hn
        refine cu_keepX hs hH2 g3 (fun z => ?_) (fun z a3 hH3 => ?_)
        · exact cu_ychange hs hP hM hj hl ha hb _ rfl (fun _ D' => ⟨rfl, ⟨S, hH2, hp, hN, hP, hM⟩⟩) (fun y => absurd y (by omega))
        · exact cu_ychange hs hP hM hj hl ha hb _ rfl (fun y => absurd y (by omega)) (fun _ C' D' hC' => ⟨rfl, ⟨_, hH3, hp, hN, hP, hC'⟩⟩)
