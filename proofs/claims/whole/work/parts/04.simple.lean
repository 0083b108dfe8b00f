theorem cu_big {x : Int32} {n : Nat} (hn : n + 1 < 2 ^ 31) (h : nI (n + 1) ≤ x) : ¬ x < 0 ∧ nI n < x := by
  have h2 := Int32.le_iff_toInt_le.mp h
  rw [nI_toInt hn] at h2
  constructor
  · intro z
    have h1 := Int32.lt_iff_toInt_lt.mp z
    rw [Int32.toInt_zero] at h1
    omega
  · rw [Int32.lt_iff_toInt_lt, nI_toInt (by omega)]
    omega
/-- isCell -/
def cu_ic (x y : Int32) : Bool := decide (¬ x < 0 ∧ ¬ (16 : Int32) ≤ x ∧ ¬ y < 0 ∧ ¬ (16 : Int32) ≤ y)
theorem cu_icT {x y : Int32} (h : cu_ic x y = true) : ∃ i j : Nat, i < 16 ∧ j < 16 ∧ x = nI i ∧ y = nI j := by
  have h' := of_decide_eq_true h
  rcases pk_ix x (n := 16) (by decide) with z | z | ⟨i, hi, ei⟩
  · exact absurd z h'.1
  · exact absurd z h'.2.1
  · rcases pk_ix y (n := 16) (by decide) with z | z | ⟨j, hj, ej⟩
    · exact absurd z h'.2.2.1
    · exact absurd z h'.2.2.2
    · exact ⟨i, j, hi, hj, ei, ej⟩
theorem cu_xic {post : Int32 → Prop} {x y : Int32} (h : post (cu_b (cu_ic x y))) : wpX_isCell post x y := by
  by_cases h1 : x < 0
  · have e : cu_ic x y = false := decide_eq_false (fun z => z.1 h1)
    rw [e] at h
    exact br_t h1 h
  by_cases h2 : (16 : Int32) ≤ x
  · have e : cu_ic x y = false := decide_eq_false (fun z => z.2.1 h2)
    rw [e] at h
    exact br_f h1 (br_t h2 h)
  by_cases h3 : y < 0
  · have e : cu_ic x y = false := decide_eq_false (fun z => z.2.2.1 h3)
    rw [e] at h
    exact br_f h1 (br_f h2 (br_t h3 h))
  by_cases h4 : (16 : Int32) ≤ y
  · have e : cu_ic x y = false := decide_eq_false (fun z => z.2.2.2 h4)
    rw [e] at h
    exact br_f h1 (br_f h2 (br_f h3 (br_t h4 h)))
  have e : cu_ic x y = true := decide_eq_true ⟨h1, h2, h3, h4⟩
  rw [e] at h
  exact br_f h1 (br_f h2 (br_f h3 (br_f h4 h)))
theorem cu_15 {x : Int32} (h : ¬ (16 : Int32) ≤ x) : ¬ (15 : Int32) < x := by
  intro z
  apply h
  have h1 := Int32.lt_iff_toInt_lt.mp z
  rw [Int32.le_iff_toInt_le]
  rw [show (15 : Int32).toInt = 15 from by decide] at h1
  rw [show (16 : Int32).toInt = 16 from by decide]
  omega
theorem cu_yic {post : Int32 → Prop} {A B C D : Nat → Int32} {x y : Int32} (h : post (cu_b (cu_ic x y))) : wpY_isCell post (A, B, C, D) x y := by
  by_cases h1 : x < 0
  · have e : cu_ic x y = false := decide_eq_false (fun z => z.1 h1)
    rw [e] at h
    exact br_t h1 h
  by_cases h2 : (16 : Int32) ≤ x
  · have e : cu_ic x y = false := decide_eq_false (fun z => z.2.1 h2)
    rw [e] at h
    exact br_f h1 (br_t (cu_big (n := 15) (by decide) h2).2 h)
  by_cases h3 : y < 0
  · have e : cu_ic x y = false := decide_eq_false (fun z => z.2.2.1 h3)
    rw [e] at h
    exact br_f h1 (br_f (cu_15 h2) (br_t h3 h))
  by_cases h4 : (16 : Int32) ≤ y
  · have e : cu_ic x y = false := decide_eq_false (fun z => z.2.2.2 h4)
    rw [e] at h
    exact br_f h1 (br_f (cu_15 h2) (br_f h3 (br_t (cu_big (n := 15) (by decide) h4).2 h)))
  have e : cu_ic x y = true := decide_eq_true ⟨h1, h2, h3, h4⟩
  rw [e] at h
  exact br_f h1 (br_f (cu_15 h2) (br_f h3 (br_f (cu_15 h4) h)))
theorem i_vc_number {k : Nat} {u : SX} {v : SY} (I : i_Rel k u v) (hk : k + 5 ≤ 2560) (v1 : Int32) (v2 : Int32) : wpX_number (fun r => wpY_number (fun r' => r' = r ∧ i_Rel (k + 5) u v) v v1 v2) u v1 v2 := by
  have J := i_up I
  obtain ⟨a, b⟩ := u
  obtain ⟨A, B, C, D⟩ := v
  obtain ⟨S, hH, hp, hN, hP, hM⟩ := I
  unfold wpX_number wpY_number
  refine cu_xic ?_
  cases h : cu_ic v1 v2 with
  | false => exact br_t rfl (cu_yic (by rw [h]; exact br_t rfl ⟨rfl, J⟩))
  | true =>
    obtain ⟨i, j, hi, hj, rfl, rfl⟩ := cu_icT h
    refine br_f (by decide) (cu_xnum hi hj (cu_yic ?_))
    rw [h]
    refine br_f (by decide) ⟨pk_in (16 * i + j) 256 (by omega) (cu_xy i j), cu_at (16 * i + j) (cu_xy i j) (by omega) (hN _ (by omega)), J⟩
theorem i_vc_has {k : Nat} {u : SX} {v : SY} (I : i_Rel k u v) (hk : k + 5 ≤ 2560) (v1 : Int32) (v2 : Int32) (v3 : Int32) : wpX_has (fun r => wpY_has (fun r' => r' = r ∧ i_Rel (k + 5) u v) v v1 v2 v3) u v1 v2 v3 := by
  have J := i_up I
  obtain ⟨a, b⟩ := u
  obtain ⟨A, B, C, D⟩ := v
  obtain ⟨S, hH, hp, hN, hP, hM⟩ := I
  unfold wpX_has wpY_has
  refine cu_xis ?_
  cases h : cu_is v1 with
  | false => exact br_t rfl (cu_yis (by rw [h]; exact br_t rfl ⟨rfl, J⟩))
  | true =>
    obtain ⟨s, hs, rfl⟩ := cu_isT h
    refine br_f (by decide) (cu_xic ?_)
    cases h2 : cu_ic v2 v3 with
    | false => exact br_t rfl (cu_yis (by rw [h]; exact br_f (by decide) (cu_yic (by rw [h2]; exact br_t rfl ⟨rfl, J⟩))))
    | true =>
      obtain ⟨i, j, hi, hj, rfl, rfl⟩ := cu_icT h2
      refine br_f (by decide) (cu_xnum hi hj ?_)
      have hq := cu_qlt (16 * i + j)
      have e := cu_ix s (cu_q (16 * i + j))
      have e2 := cu_xy3 s i j
      have vx : a (nI s * 256 + nI (cu_q (16 * i + j))).toNatClampNeg = cu_b (S s (cu_q (16 * i + j))) := cu_at _ e (by omega) (hH _ _ hs hq)
      have vy : C (256 * nI s + 16 * nI i + nI j).toNatClampNeg = cu_b (S s (cu_q (16 * i + j))) := cu_at _ e2 (by omega) (hM _ _ hs (by omega))
      refine ⟨pk_in _ 1280 (by omega) e, ?_⟩
      cases hv : S s (cu_q (16 * i + j)) with
      | false =>
        refine br_t (vx.trans (cu_b0 hv)) (cu_yis ?_)
        rw [h]
        refine br_f (by decide) (cu_yic ?_)
        rw [h2]
        exact br_f (by decide) ⟨pk_in _ 1024 (by omega) e2, br_t (vy.trans (cu_b0 hv)) ⟨rfl, J⟩⟩
      | true =>
        refine br_f (fun z => cu_b1 hv (vx.symm.trans z)) (cu_yis ?_)
        rw [h]
        refine br_f (by decide) (cu_yic ?_)
        rw [h2]
        exact br_f (by decide) ⟨pk_in _ 1024 (by omega) e2, br_f (fun z => cu_b1 hv (vy.symm.trans z)) ⟨rfl, J⟩⟩
theorem i_vc_cells {k : Nat} {u : SX} {v : SY} (I : i_Rel k u v) (hk : k + 5 ≤ 2560) (v1 : Int32) : wpX_cells (fun r => wpY_cells (fun r' => r' = r ∧ i_Rel (k + 5) u v) v v1) u v1 := by
  have J := i_up I
  obtain ⟨a, b⟩ := u
  obtain ⟨A, B, C, D⟩ := v
  obtain ⟨S, hH, hp, hN, hP, hM⟩ := I
  unfold wpX_cells
  refine cu_xis ?_
  cases h : cu_is v1 with
  | false => unfold wpY_cells; exact br_t rfl (cu_yis (by rw [h]; exact br_t rfl ⟨rfl, J⟩))
  | true =>
    obtain ⟨s, hs, rfl⟩ := cu_isT h
    refine br_f (by decide) (cu_run (s := s) (f := 0) (l := 256) (by omega) (by decide) (fun n hn => hH s n hs hn) ?_)
    refine cu_ycells hs (fun c hc => hM s c hs hc) ⟨congrArg nI (cu_ncongr (fun i _ => by rw [Nat.zero_add])), J⟩
theorem i_vc_place {k : Nat} {u : SX} {v : SY} (I : i_Rel k u v) (hk : k + 5 ≤ 2560) (v1 : Int32) : wpX_place (fun r => wpY_place (fun r' => r' = r ∧ i_Rel (k + 5) u v) v v1) u v1 := by
  have J := i_up I
  obtain ⟨a, b⟩ := u
  obtain ⟨A, B, C, D⟩ := v
  obtain ⟨S, hH, hp, hN, hP, hM⟩ := I
  rcases pk_ix v1 (n := 256) (by decide) with z | z | ⟨i, hi, rfl⟩
  · exact br_t z (br_t z ⟨rfl, J⟩)
  · have h := cu_big (n := 255) (by decide) z
    exact br_f h.1 (br_t z (br_f h.1 (br_t h.2 ⟨rfl, J⟩)))
  · have h0 : ¬ nI i < 0 := nI_pos (by omega)
    have h1 : ¬ (256 : Int32) ≤ nI i := nI_ge (b := 256) hi (by decide)
    have h2 : ¬ (255 : Int32) < nI i := nI_nlt (a := 255) (by omega) (by decide)
    have hc : (nI i).toNatClampNeg = i := nI_clamp (by omega)
    refine br_f h0 (br_f h1 ⟨vp_in_nI hi (by decide), br_f h0 (br_f h2 ⟨vp_in_nI hi (by decide), ?_, J⟩)⟩)
    rw [hc]
    exact (hP i hi).trans (hp i hi).symm
theorem i_vc_stretches {k : Nat} {u : SX} {v : SY} (I : i_Rel k u v) (hk : k + 5 ≤ 2560) (v1 : Int32) : wpX_stretches (fun r => wpY_stretches (fun r' v' => r' = r ∧ i_Rel (k + 5) u v') v v1) u v1 := by
  have J := i_up I
  obtain ⟨a, b⟩ := u
  obtain ⟨A, B, C, D⟩ := v
  obtain ⟨S, hH, hp, hN, hP, hM⟩ := I
  unfold wpX_stretches wpY_stretches
  refine cu_xis ?_
  cases h : cu_is v1 with
  | false => exact br_t rfl (cu_yis (by rw [h]; exact br_t rfl ⟨rfl, J⟩))
  | true =>
    obtain ⟨s, hs, rfl⟩ := cu_isT h
    refine br_f (by decide) (cu_xst (by omega) (fun n hn => hH s n hs hn) (cu_yis ?_))
    rw [h]
    refine br_f (by decide) ?_
    refine loop_0 (fun n i D' => wY_stretches_12 _ (nI s) n (nI i) A B C D') (fun i D' => ∀ c, c < i → D' c = cu_b (S s (cu_q c))) 256 D lt_0 ?_ ?_
    · intro n D' g
      exact br_t (by decide) (cu_yruns hP g ⟨rfl, ⟨S, hH, hp, hN, hP, hM⟩⟩)
    · intro n i D' hi g ih
      have v : C (256 * nI s + nI i).toNatClampNeg = cu_b (S s (cu_q i)) := cu_at _ (cu_iy s i) (by omega) (hM s i hs hi)
      refine br_f (nI_ge (b := 256) hi (by decide)) ⟨pk_in _ 1024 (by omega) (cu_iy s i), vp_in_nI hi (by decide), ?_⟩
      refine nm_r (e' := upd D' i (cu_b (S s (cu_q i)))) (by rw [v, cu_nar, nI_clamp (by omega)]) (nm_r (nI_1 i) (ih _ (lt_s (fun c hc => ?_) pk_us)))
      rw [pk_un (by omega)]; exact g c hc
/-- the k-th of those that there are: what nth and piece walk -/
def cu_kth (A : Nat → Option Int32) (k : Int32) : Nat → Nat → Int32 → Int32
  | 0, _, _ => -3
  | d + 1, i, c => match A i with
    | none => cu_kth A k d (i + 1) c
    | some r => if c = k then r else cu_kth A k d (i + 1) (c + 1)
theorem cu_kn {A : Nat → Option Int32} {k : Int32} {d i : Nat} {c : Int32} (h : A i = none) : cu_kth A k (d + 1) i c = cu_kth A k d (i + 1) c := by rw [cu_kth, h]
theorem cu_ks {A : Nat → Option Int32} {k : Int32} {d i : Nat} {c r : Int32} (h : A i = some r) (e : c = k) : cu_kth A k (d + 1) i c = r := by rw [cu_kth, h]; exact if_pos e
theorem cu_kd {A : Nat → Option Int32} {k : Int32} {d i : Nat} {c r : Int32} (h : A i = some r) (e : ¬ c = k) : cu_kth A k (d + 1) i c = cu_kth A k d (i + 1) (c + 1) := by rw [cu_kth, h]; exact if_neg e
def cu_nA (T : Nat → Bool) (i : Nat) : Option Int32 := if T i then some (nI (cu_p i)) else none
theorem cu_xnth {post : Int32 → Prop} {a b : Nat → Int32} {s : Nat} {T : Nat → Bool} {k : Int32} (hs : s < 4) (hp : cu_P b) (hT : ∀ n, n < 256 → a (256 * s + n) = cu_b (T n)) :
    ∀ d i c, i + d = 256 → post (cu_kth (cu_nA T) k d i c) → wX_nth_14 post (nI s) k a b (d + 1) c (nI i) := by
  intro d
  induction d with
  | zero =>
    intro i c hi h
    have : i = 256 := by omega
    subst this
    exact br_t (by decide) h
  | succ d ih =>
    intro i c hi h
    have v : a (nI s * 256 + nI i).toNatClampNeg = cu_b (T i) := cu_at _ (cu_ix s i) (by omega) (hT _ (by omega))
    refine br_f (nI_ge (b := 256) (by omega) (by decide)) ⟨pk_in _ 1280 (by omega) (cu_ix s i), ?_⟩
    cases e : T i with
    | false =>
      rw [cu_kn (by rw [cu_nA, e]; rfl)] at h
      exact br_t (v.trans (cu_b0 e)) (nm_r (nI_1 i) (ih (i + 1) c (by omega) h))
    | true =>
      have eA : cu_nA T i = some (nI (cu_p i)) := by rw [cu_nA, e]; rfl
      refine br_f (fun z => cu_b1 e (v.symm.trans z)) ?_
      by_cases ec : c = k
      · rw [cu_ks eA ec] at h
        refine br_t ec ⟨vp_in_nI (by omega) (by decide), ?_⟩
        rw [nI_clamp (by omega), hp i (by omega)]
        exact h
      · rw [cu_kd eA ec] at h
        exact br_f ec (nm_e (nm_r (nI_1 i) (ih (i + 1) (c + 1) (by omega) h)))
theorem cu_pl {B : Nat → Int32} (hP : cu_P B) {i : Nat} (hi : i < 256) : B (nI i).toNatClampNeg = nI (cu_p i) := by rw [nI_clamp (by omega)]; exact hP i hi
theorem cu_mk {B C : Nat → Int32} {s : Nat} {T : Nat → Bool} (hs : s < 4) (hP : cu_P B) (hT : ∀ c, c < 256 → C (256 * s + c) = cu_b (T (cu_q c))) {i : Nat} (hi : i < 256) :
    vp_in (256 * nI s + B (nI i).toNatClampNeg) 1024 ∧ C (256 * nI s + B (nI i).toNatClampNeg).toNatClampNeg = cu_b (T i) := by
  have hq := cu_plt i
  rw [cu_pl hP hi, cu_iy]
  refine ⟨vp_in_nI (by omega) (by decide), ?_⟩
  rw [nI_clamp (by omega), hT _ hq, cu_qp i hi]
theorem cu_ynth {post : Int32 → Prop} {A B C D : Nat → Int32} {s : Nat} {T : Nat → Bool} {k : Int32} (hs : s < 4) (hP : cu_P B) (hT : ∀ c, c < 256 → C (256 * s + c) = cu_b (T (cu_q c))) :
    ∀ d i c, i + d = 256 → post (cu_kth (cu_nA T) k d i c) → wY_nth_15 post (nI s) k A B C D (d + 1) c (nI i) := by
  intro d
  induction d with
  | zero =>
    intro i c hi h
    have : i = 256 := by omega
    subst this
    exact br_t (by decide) h
  | succ d ih =>
    intro i c hi h
    have v := cu_mk hs hP hT (i := i) (by omega)
    refine br_f (nI_ge (b := 256) (by omega) (by decide)) ⟨vp_in_nI (by omega) (by decide), v.1, ?_⟩
    cases e : T i with
    | false =>
      rw [cu_kn (by rw [cu_nA, e]; rfl)] at h
      exact br_t (v.2.trans (cu_b0 e)) (nm_r (nI_1 i) (ih (i + 1) c (by omega) h))
    | true =>
      have eA : cu_nA T i = some (nI (cu_p i)) := by rw [cu_nA, e]; rfl
      refine br_f (fun z => cu_b1 e (v.2.symm.trans z)) ?_
      by_cases ec : c = k
      · rw [cu_ks eA ec] at h
        refine br_t ec ⟨vp_in_nI (by omega) (by decide), ?_⟩
        rw [cu_pl hP (by omega)]
        exact h
      · rw [cu_kd eA ec] at h
        exact br_f ec (nm_e (nm_r (nI_1 i) (ih (i + 1) (c + 1) (by omega) h)))
theorem i_vc_nth {k : Nat} {u : SX} {v : SY} (I : i_Rel k u v) (hk : k + 5 ≤ 2560) (v1 : Int32) (v2 : Int32) : wpX_nth (fun r => wpY_nth (fun r' => r' = r ∧ i_Rel (k + 5) u v) v v1 v2) u v1 v2 := by
  have J := i_up I
  obtain ⟨a, b⟩ := u
  obtain ⟨A, B, C, D⟩ := v
  obtain ⟨S, hH, hp, hN, hP, hM⟩ := I
  unfold wpX_nth wpY_nth
  refine cu_xis ?_
  cases h : cu_is v1 with
  | false => exact br_t rfl (cu_yis (by rw [h]; exact br_t rfl ⟨rfl, J⟩))
  | true =>
    obtain ⟨s, hs, rfl⟩ := cu_isT h
    refine br_f (by decide) ⟨257, cu_xnth hs hp (fun n hn => hH s n hs hn) 256 0 0 rfl (cu_yis ?_)⟩
    rw [h]
    exact br_f (by decide) ⟨257, cu_ynth hs hP (fun c hc => hM s c hs hc) 256 0 0 rfl ⟨rfl, J⟩⟩
