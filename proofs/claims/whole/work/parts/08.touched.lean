theorem cu_sh4 : ∀ l, l < 5 → (1 : Int32) <<< ((2 * nI l) &&& 31) = nI (4 ^ l) ∧ 4 ^ l ≤ 256 ∧ 4 ^ l = 2 ^ l * 2 ^ l ∧ 4 ^ l * cu_L l = 256 := by decide +kernel
theorem cu_perml : ∀ l, l < 5 → ((List.range (4 ^ l)).map (fun j => cu_f l (j / 2 ^ l) (j % 2 ^ l))).isPerm (List.range (4 ^ l)) = true := by decide +kernel
theorem cu_blt : ∀ l, l < 5 → ∀ i, i < 4 ^ l → (i + 1) * cu_L l ≤ 256 := by decide +kernel
/-- is the i-th square of level l touched -/
def cu_to (T : Nat → Bool) (l i : Nat) : Bool := decide (0 < cu_n (fun j => T (i * cu_L l + j)) (cu_L l))
theorem cu_toI {T : Nat → Bool} {l i : Nat} (hi : (i + 1) * cu_L l ≤ 256) : cu_to T l i = true ↔ ∃ c, c < 256 ∧ cu_q c / cu_L l = i ∧ T (cu_q c) = true := by
  have hL := cu_Lpos l
  have hm : (i + 1) * cu_L l = i * cu_L l + cu_L l := Nat.succ_mul _ _
  unfold cu_to
  rw [decide_eq_true_iff, cu_npos]
  constructor
  · rintro ⟨j, hj, h⟩
    have hlt : i * cu_L l + j < 256 := by omega
    refine ⟨cu_p (i * cu_L l + j), cu_plt _, ?_, ?_⟩
    · rw [cu_qp _ hlt, Nat.mul_comm, Nat.mul_add_div hL, Nat.div_eq_of_lt hj, Nat.add_zero]
    · rw [cu_qp _ hlt]; exact h
  · rintro ⟨c, hc, rfl, h⟩
    refine ⟨cu_q c % cu_L l, Nat.mod_lt _ hL, ?_⟩
    rw [Nat.mul_comm, Nat.div_add_mod]
    exact h
theorem cu_ysome {post : Int32 → Prop} {A B C D : Nat → Int32} {s l x y : Nat} {T : Nat → Bool} {W : Bool} (hs : s < 4) (hl : l < 5) (hx : x < 2 ^ l) (hy : y < 2 ^ l) (hT : ∀ c, c < 256 → C (256 * s + c) = cu_b (T (cu_q c)))
    (hW : W = true ↔ ∃ c, c < 256 ∧ cu_q c / cu_L l = cu_f l x y ∧ T (cu_q c) = true) (h : post (cu_b W)) : wpY_some post (A, B, C, D) (nI s) (nI l) (nI x) (nI y) := by
  refine loop_0 (fun n i (_ : Unit) => wY_some_3 post (nI s) (nI l) (nI x) (nI y) A B C D n (nI i)) (fun i _ => ∀ c, c < i → ¬ (cu_q c / cu_L l = cu_f l x y ∧ T (cu_q c) = true)) 256 () lt_0 ?_ ?_
  · intro n _ g
    have hw : W = false := by
      cases hw : W with
      | false => rfl
      | true =>
        obtain ⟨c, hc, h'⟩ := hW.mp hw
        exact absurd h' (g c hc)
    rw [hw] at h
    exact br_t (by decide) h
  · intro n i _ hi g ih
    have v : C (256 * nI s + nI i).toNatClampNeg = cu_b (T (cu_q i)) := cu_at _ (cu_iy s i) (by omega) (hT i hi)
    refine br_f (nI_ge (b := 256) hi (by decide)) ⟨pk_in _ 1024 (by omega) (cu_iy s i), ?_⟩
    cases e : T (cu_q i) with
    | false => exact br_t (v.trans (cu_b0 e)) (nm_r (nI_1 i) (ih () (lt_s g (fun y => by rw [e] at y; exact absurd y.2 (by decide)))))
    | true =>
      refine br_f (fun z => cu_b1 e (v.symm.trans z)) (cu_yin hi hl hx hy ?_)
      by_cases z : cu_q i / cu_L l = cu_f l x y
      · rw [decide_eq_true z]
        rw [hW.mpr ⟨i, hi, z, e⟩] at h
        exact br_f (by decide) h
      · rw [decide_eq_false z]
        exact br_t rfl (nm_r (nI_1 i) (ih () (lt_s g (fun y => z y.1))))
theorem cu_xtouch {post : Int32 → Prop} {a b : Nat → Int32} {s l : Nat} {T : Nat → Bool} (hs : s < 4) (hl : l < 5) (hT : ∀ n, n < 256 → a (256 * s + n) = cu_b (T n)) (h : post (nI (cu_n (cu_to T l) (4 ^ l)))) : ∃ n, wX_touched_36 post (nI s) (nI (cu_L l)) (nI (4 ^ l)) a b n 0 0 := by
  have h4 := cu_sh4 l hl
  refine loop_0 (fun n i c => wX_touched_36 post (nI s) (nI (cu_L l)) (nI (4 ^ l)) a b n c (nI i)) (fun i c => c = nI (cu_n (cu_to T l) i)) (4 ^ l) 0 rfl ?_ ?_
  · intro n c hc
    subst hc
    exact br_t (nI_le (Nat.le_refl _) (by omega)) h
  · intro n i c hi hc ih
    subst hc
    have hb := cu_blt l hl i hi
    have hm : (i + 1) * cu_L l = i * cu_L l + cu_L l := Nat.succ_mul _ _
    have hle := cu_nle (fun j => T (i * cu_L l + j)) (cu_L l)
    refine br_f (nI_ge hi (by omega)) ?_
    rw [pk_mul]
    refine cu_run (s := s) (by omega) (by omega) hT (pk_le (cu_n (fun j => T (i * cu_L l + j)) (cu_L l)) 0 (fun z => ?_) (fun z => ?_))
    · exact nm_r (nI_1 i) (ih _ (congrArg nI (cu_nf (f := cu_to T l) (decide_eq_false (by omega))).symm))
    · exact nm_r (nI_1 _) (nm_r (nI_1 i) (ih _ (congrArg nI (cu_nt (f := cu_to T l) (decide_eq_true z)).symm)))
theorem cu_ytouch {post : Int32 → Prop} {A B C D : Nat → Int32} {s l : Nat} {T : Nat → Bool} (hs : s < 4) (hl : l < 5) (hT : ∀ c, c < 256 → C (256 * s + c) = cu_b (T (cu_q c))) (h : post (nI (cu_n (cu_to T l) (4 ^ l)))) : ∃ n, wY_touched_29 post (nI s) (nI l) (nI (2 ^ l)) A B C D n 0 0 := by
  have h4 := (cu_sh4 l hl).2.2.1
  have hp2 := cu_p2 l hl
  rw [← cu_nperm (List.isPerm_iff.mp (cu_perml l hl)) (cu_to T l), h4] at h
  have hk : 0 < 2 ^ l := Nat.two_pow_pos l
  refine loop_0 (fun n i c => wY_touched_29 post (nI s) (nI l) (nI (2 ^ l)) A B C D n c (nI i)) (fun i c => c = nI (cu_n (fun j => cu_to T l (cu_f l (j / 2 ^ l) (j % 2 ^ l))) (i * 2 ^ l))) (2 ^ l) 0 (by rw [Nat.zero_mul]; rfl) ?_ ?_
  · intro n c hc
    subst hc
    exact br_t (nI_le (Nat.le_refl _) (by omega)) h
  · intro n x c hx hc ih
    subst hc
    refine br_f (nI_ge hx (by omega)) ?_
    refine loop_0 (fun m y c => wY_touched_38 post (wY_touched_29 post (nI s) (nI l) (nI (2 ^ l)) A B C D n) (nI s) (nI l) (nI (2 ^ l)) (nI x) A B C D m c (nI y)) (fun y c => c = nI (cu_n (fun j => cu_to T l (cu_f l (j / 2 ^ l) (j % 2 ^ l))) (x * 2 ^ l + y))) (2 ^ l) _ rfl ?_ ?_
    · intro m c hc
      subst hc
      exact br_t (nI_le (Nat.le_refl _) (by omega)) (nm_r (nI_1 x) (ih _ (by rw [Nat.succ_mul])))
    · intro m y c hy hc ih2
      subst hc
      have e1 : (x * 2 ^ l + y) / 2 ^ l = x := by rw [Nat.mul_comm, Nat.mul_add_div hk, Nat.div_eq_of_lt hy, Nat.add_zero]
      have e2 : (x * 2 ^ l + y) % 2 ^ l = y := by rw [Nat.mul_comm, Nat.mul_add_mod, Nat.mod_eq_of_lt hy]
      have ef : cu_to T l (cu_f l ((x * 2 ^ l + y) / 2 ^ l) ((x * 2 ^ l + y) % 2 ^ l)) = cu_to T l (cu_f l x y) := by rw [e1, e2]
      refine br_f (nI_ge hy (by omega)) (cu_ysome (W := cu_to T l (cu_f l x y)) hs hl hx hy hT (cu_toI (cu_flt l hl x hx y hy)) ?_)
      cases e : cu_to T l (cu_f l x y) with
      | false => exact br_t rfl (nm_r (nI_1 y) (ih2 _ (congrArg nI (cu_nf (f := fun j => cu_to T l (cu_f l (j / 2 ^ l) (j % 2 ^ l))) (ef.trans e)).symm)))
      | true => exact br_f (by decide) (nm_r (nI_1 _) (nm_r (nI_1 y) (ih2 _ (congrArg nI (cu_nt (f := fun j => cu_to T l (cu_f l (j / 2 ^ l) (j % 2 ^ l))) (ef.trans e)).symm))))
