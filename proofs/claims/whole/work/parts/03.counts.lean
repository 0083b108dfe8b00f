/-- the first three sets of checks: is it a set -/
theorem cu_set (x : Int32) : (x < 0) ∨ (¬ x < 0 ∧ (4 : Int32) ≤ x ∧ (3 : Int32) < x) ∨ ∃ s : Nat, s < 4 ∧ x = nI s := by
  rcases pk_ix x (n := 4) (by decide) with h | h | h
  · exact Or.inl h
  · refine Or.inr (Or.inl ⟨?_, h, ?_⟩)
    · intro z
      have h1 := Int32.lt_iff_toInt_lt.mp z
      have h2 := Int32.le_iff_toInt_le.mp h
      rw [nI_toInt (by decide)] at h2
      rw [Int32.toInt_zero] at h1
      omega
    · have h2 := Int32.le_iff_toInt_le.mp h
      rw [nI_toInt (by decide)] at h2
      rw [Int32.lt_iff_toInt_lt, show (3 : Int32).toInt = 3 from by decide]
      omega
  · exact Or.inr (Or.inr h)
/-- what isSet answers: both sides' -/
def cu_is (x : Int32) : Bool := decide (¬ x < 0 ∧ ¬ (4 : Int32) ≤ x)
theorem cu_isN {s : Nat} (h : s < 4) : cu_is (nI s) = true := decide_eq_true ⟨nI_pos (by omega), nI_ge (b := 4) h (by decide)⟩
theorem cu_isT {x : Int32} (h : cu_is x = true) : ∃ s : Nat, s < 4 ∧ x = nI s := by
  have h' := of_decide_eq_true h
  rcases cu_set x with z | z | z
  · exact absurd z h'.1
  · exact absurd z.2.1 h'.2
  · exact z
theorem cu_xis {post : Int32 → Prop} {x : Int32} (h : post (cu_b (cu_is x))) : wpX_isSet post x := by
  rcases cu_set x with z | ⟨z, z1, z2⟩ | ⟨s, hs, rfl⟩
  · have e : cu_is x = false := decide_eq_false (fun y => y.1 z)
    rw [e] at h
    exact br_t z h
  · have e : cu_is x = false := decide_eq_false (fun y => y.2 z1)
    rw [e] at h
    exact br_f z (br_t z1 h)
  · rw [cu_isN hs] at h
    exact br_f (nI_pos (by omega)) (br_f (nI_ge (b := 4) hs (by decide)) h)
theorem cu_yis {post : Int32 → Prop} {A B C D : Nat → Int32} {x : Int32} (h : post (cu_b (cu_is x))) : wpY_isSet post (A, B, C, D) x := by
  rcases cu_set x with z | ⟨z, z1, z2⟩ | ⟨s, hs, rfl⟩
  · have e : cu_is x = false := decide_eq_false (fun y => y.1 z)
    rw [e] at h
    exact br_t z h
  · have e : cu_is x = false := decide_eq_false (fun y => y.2 z1)
    rw [e] at h
    exact br_f z (br_t z2 h)
  · rw [cu_isN hs] at h
    exact br_f (nI_pos (by omega)) (br_f (nI_nlt (a := 3) (by omega) (by decide)) h)
/-- countRun -/
theorem cu_run {post : Int32 → Prop} {a b : Nat → Int32} {s f l : Nat} {T : Nat → Bool} (hs : s < 5) (hl : f + l ≤ 256) (hT : ∀ n, n < 256 → a (256 * s + n) = cu_b (T n)) (hp : post (nI (cu_n (fun i => T (f + i)) l))) : wpX_countRun post (a, b) (nI s) (nI f) (nI l) := by
  refine loop_0 (fun n i c => wX_countRun_6 post (nI s) (nI f) (nI l) a b n c (nI i)) (fun i c => c = nI (cu_n (fun i => T (f + i)) i)) l 0 rfl ?_ ?_
  · intro n c hc
    subst hc
    exact br_t (nI_le (Nat.le_refl l) (by omega)) hp
  · intro n i c hi hc ih
    subst hc
    have e := cu_ix3 s f i
    have v : a (nI s * 256 + nI f + nI i).toNatClampNeg = cu_b (T (f + i)) := cu_at _ e (by omega) (hT _ (by omega))
    refine br_f (nI_ge hi (by omega)) ⟨pk_in (256 * s + (f + i)) 1280 (by omega) e, ?_⟩
    cases h : T (f + i) with
    | false => exact br_t (v.trans (cu_b0 h)) (nm_r (nI_1 i) (ih _ (congrArg nI (cu_nf (f := fun i => T (f + i)) h).symm)))
    | true => exact br_f (fun z => cu_b1 h (v.symm.trans z)) (nm_r (nI_1 _) (nm_r (nI_1 i) (ih _ (congrArg nI (cu_nt (f := fun i => T (f + i)) h).symm))))
/-- cells: the count by cells is the count by curve numbers -/
theorem cu_ycells {post : Int32 → Prop} {A B C D : Nat → Int32} {s : Nat} {T : Nat → Bool} (hs : s < 4) (hT : ∀ c, c < 256 → C (256 * s + c) = cu_b (T (cu_q c))) (hp : post (nI (cu_n T 256))) : wpY_cells post (A, B, C, D) (nI s) := by
  rw [← cu_nq T] at hp
  unfold wpY_cells
  refine cu_yis ?_
  rw [cu_isN hs]
  refine br_f (by decide) ?_
  refine loop_0 (fun n i c => wY_cells_14 post (nI s) A B C D n c (nI i)) (fun i c => c = nI (cu_n (fun c => T (cu_q c)) i)) 256 0 rfl ?_ ?_
  · intro n c hc
    subst hc
    exact br_t (by decide) hp
  · intro n i c hi hc ih
    subst hc
    have e := cu_iy s i
    have v : C (256 * nI s + nI i).toNatClampNeg = cu_b (T (cu_q i)) := cu_at _ e (by omega) (hT _ (by omega))
    refine br_f (nI_ge (b := 256) hi (by decide)) ⟨pk_in (256 * s + i) 1024 (by omega) e, ?_⟩
    cases h : T (cu_q i) with
    | false => exact br_t (v.trans (cu_b0 h)) (nm_r (nI_1 i) (ih _ (congrArg nI (cu_nf (f := fun c => T (cu_q c)) h).symm)))
    | true => exact br_f (fun z => cu_b1 h (v.symm.trans z)) (nm_r (nI_1 _) (nm_r (nI_1 i) (ih _ (congrArg nI (cu_nt (f := fun c => T (cu_q c)) h).symm))))
/-- stretches -/
def cu_pv (T : Nat → Bool) : Nat → Bool
  | 0 => false
  | i + 1 => T i
def cu_st (T : Nat → Bool) (n : Nat) : Nat := cu_n (fun i => T i && !cu_pv T i) n
theorem cu_st0 {T : Nat → Bool} {i : Nat} (h : T i = false) : cu_st T (i + 1) = cu_st T i := cu_nf (f := fun i => T i && !cu_pv T i) (by show (T i && _) = false; rw [h]; rfl)
theorem cu_st1 {T : Nat → Bool} {i : Nat} (h : T i = true) (h2 : cu_pv T i = false) : cu_st T (i + 1) = cu_st T i + 1 := cu_nt (f := fun i => T i && !cu_pv T i) (by show (T i && !cu_pv T i) = true; rw [h, h2]; rfl)
theorem cu_st2 {T : Nat → Bool} {i : Nat} (h : T i = true) (h2 : cu_pv T i = true) : cu_st T (i + 1) = cu_st T i := cu_nf (f := fun i => T i && !cu_pv T i) (by show (T i && !cu_pv T i) = false; rw [h, h2]; rfl)
theorem cu_xst {post : Int32 → Prop} {a b : Nat → Int32} {s : Nat} {T : Nat → Bool} (hs : s < 5) (hT : ∀ n, n < 256 → a (256 * s + n) = cu_b (T n)) (hp : post (nI (cu_st T 256))) : wpX_countStretches post (a, b) (nI s) := by
  refine loop_0 (fun n i (c : Int32 × Int32) => wX_countStretches_7 post (nI s) a b n c.1 c.2 (nI i)) (fun i c => c = (nI (cu_st T i), cu_b (cu_pv T i))) 256 (0, 0) rfl ?_ ?_
  · intro n c hc
    subst hc
    exact br_t (by decide) hp
  · intro n i c hi hc ih
    subst hc
    have e := cu_ix s i
    have v : a (nI s * 256 + nI i).toNatClampNeg = cu_b (T i) := cu_at _ e (by omega) (hT _ (by omega))
    refine br_f (nI_ge (b := 256) hi (by decide)) ⟨pk_in (256 * s + i) 1280 (by omega) e, nm_r v ?_⟩
    cases h : T i with
    | false => exact br_t (cu_b0 rfl) (nm_r (nI_1 i) (ih (nI (cu_st T i), cu_b false) (by rw [cu_st0 h]; show _ = (_, cu_b (T i)); rw [h])))
    | true =>
      refine br_f (cu_b1 rfl) ?_
      cases h2 : cu_pv T i with
      | false => exact br_t (cu_b0 rfl) (nm_r (nI_1 _) (nm_r (nI_1 i) (ih (nI (cu_st T i + 1), cu_b true) (by rw [cu_st1 h h2]; show _ = (_, cu_b (T i)); rw [h]))))
      | true => exact br_f (cu_b1 rfl) (nm_r (nI_1 i) (ih (nI (cu_st T i), cu_b true) (by rw [cu_st2 h h2]; show _ = (_, cu_b (T i)); rw [h])))
theorem cu_yruns {post : Int32 → Prop} {A B C D : Nat → Int32} {T : Nat → Bool} (hP : cu_P B) (hT : ∀ c, c < 256 → D c = cu_b (T (cu_q c))) (hp : post (nI (cu_st T 256))) : wpY_runs post (A, B, C, D) := by
  have hD : ∀ i, i < 256 → vp_in (B (nI i).toNatClampNeg) 256 ∧ D (B (nI i).toNatClampNeg).toNatClampNeg = cu_b (T i) := by
    intro i hi
    have hq := cu_plt i
    rw [nI_clamp (by omega), hP i hi, nI_clamp (by omega), hT _ hq, cu_qp i hi]
    exact ⟨vp_in_nI hq (by decide), rfl⟩
  refine loop_0 (fun n i c => wY_runs_4 post A B C D n c (nI i)) (fun i c => c = nI (cu_st T i)) 256 0 rfl ?_ ?_
  · intro n c hc
    subst hc
    exact br_t (by decide) hp
  · intro n i c hi hc ih
    subst hc
    refine br_f (nI_ge (b := 256) hi (by decide)) ⟨vp_in_nI hi (by decide), (hD i hi).1, ?_⟩
    cases h : T i with
    | false => exact br_t ((hD i hi).2.trans (cu_b0 h)) (nm_r (nI_1 i) (ih _ (by rw [cu_st0 h])))
    | true =>
      refine br_f (fun z => cu_b1 h ((hD i hi).2.symm.trans z)) ?_
      cases i with
      | zero => exact br_t rfl (nm_r (nI_1 _) (nm_r (nI_1 0) (ih _ (by rw [cu_st1 h rfl]))))
      | succ j =>
        have hj := hD j (by omega)
        refine br_f (nI_ne0 (by omega) (by omega)) ?_
        rw [nI_pred]
        refine ⟨vp_in_nI (by omega) (by decide), hj.1, ?_⟩
        cases h2 : T j with
        | false => exact br_t (hj.2.trans (cu_b0 h2)) (nm_r (nI_1 _) (nm_r (nI_1 _) (ih _ (by rw [cu_st1 h h2]))))
        | true => exact br_f (fun z => cu_b1 h2 (hj.2.symm.trans z)) (nm_r (nI_1 _) (ih _ (by rw [cu_st2 h h2])))
/-- copySet -/
theorem cu_copy {post : SX → Prop} {a b : Nat → Int32} {s t : Nat} {T : Nat → Bool} (hs : s < 5) (ht : t < 5) (hst : s ≠ t) (hT : ∀ n, n < 256 → a (256 * s + n) = cu_b (T n))
    (hp : ∀ a', (∀ n, n < 256 → a' (256 * t + n) = cu_b (T n)) → (∀ j, (j < 256 * t ∨ 256 * t + 256 ≤ j) → a' j = a j) → post (a', b)) : wpX_copySet post (a, b) (nI s) (nI t) := by
  refine loop_0 (fun n i a' => wX_copySet_2 post (nI s) (nI t) n (nI i) a' b) (fun i a' => (∀ n, n < i → a' (256 * t + n) = cu_b (T n)) ∧ (∀ j, (j < 256 * t ∨ 256 * t + i ≤ j) → a' j = a j)) 256 a ⟨lt_0, fun _ _ => rfl⟩ ?_ ?_
  · rintro n a' ⟨h1, h2⟩
    exact br_t (by decide) (hp a' h1 h2)
  · rintro n i a' hi ⟨h1, h2⟩ ih
    have v : a' (nI s * 256 + nI i).toNatClampNeg = cu_b (T i) := cu_at _ (cu_ix s i) (by omega) ((h2 _ (by omega)).trans (hT i hi))
    refine br_f (nI_ge (b := 256) hi (by decide)) ⟨pk_in (256 * s + i) 1280 (by omega) (cu_ix s i), pk_in (256 * t + i) 1280 (by omega) (cu_ix t i), ?_⟩
    refine nm_r (e' := upd a' (256 * t + i) (cu_b (T i))) (by rw [v, cu_nar, pk_cl (256 * t + i) (cu_ix t i) (by omega)]) (nm_r (nI_1 i) (ih _ ⟨lt_s (fun m hm => ?_) pk_us, fun j hj => ?_⟩))
    · rw [pk_un (by omega)]; exact h1 m hm
    · rw [pk_un (by omega)]; exact h2 j (by omega)
/-- a set put anew -/
def cu_put (S : Nat → Nat → Bool) (s : Nat) (T : Nat → Bool) : Nat → Nat → Bool := fun s' n => if s' = s then T n else S s' n
theorem cu_keepX {post : Int32 → SX → Prop} {a b : Nat → Int32} {s : Nat} {S : Nat → Nat → Bool} {T : Nat → Bool} (hs : s < 4) (hH : cu_H S a) (hT : ∀ n, n < 256 → a (1024 + n) = cu_b (T n))
    (h1 : 40 < cu_st T 256 → post (-2) (a, b)) (h2 : cu_st T 256 ≤ 40 → ∀ a', cu_H (cu_put S s T) a' → post (nI (cu_n T 256)) (a', b)) : wpX_keepDraft post (a, b) (nI s) := by
  unfold wpX_keepDraft
  have hlt : cu_st T 256 ≤ 256 := cu_nle _ _
  refine cu_xst (s := 4) (by decide) hT (pk_le (cu_st T 256) 40 (fun z => ?_) (fun z => h1 z))
  refine cu_copy (s := 4) (t := s) (by decide) (by omega) (by omega) hT (fun a' g1 g2 => ?_)
  refine cu_run (s := s) (f := 0) (l := 256) (by omega) (by decide) g1 ?_
  have e : cu_n (fun i => T (0 + i)) 256 = cu_n T 256 := cu_ncongr (fun i _ => by rw [Nat.zero_add])
  rw [e]
  refine h2 z a' (fun s' n hs' hn => ?_)
  by_cases hh : s' = s
  · subst hh
    rw [g1 n hn, cu_put, if_pos rfl]
  · rw [g2 _ (by omega), hH s' n hs' hn, cu_put, if_neg hh]
theorem cu_keepY {post : Int32 → SY → Prop} {A B C D : Nat → Int32} {s : Nat} {S : Nat → Nat → Bool} {T : Nat → Bool} (hs : s < 4) (hP : cu_P B) (hM : cu_M S C) (hT : ∀ c, c < 256 → D c = cu_b (T (cu_q c)))
    (h1 : 40 < cu_st T 256 → post (-2) (A, B, C, D)) (h2 : cu_st T 256 ≤ 40 → ∀ C', cu_M (cu_put S s T) C' → post (nI (cu_n T 256)) (A, B, C', D)) : wpY_keep post (A, B, C, D) (nI s) := by
  unfold wpY_keep
  have hlt : cu_st T 256 ≤ 256 := cu_nle _ _
  refine cu_yruns hP hT (pk_le (cu_st T 256) 40 (fun z => ?_) (fun z => h1 z))
  refine loop_0 (fun n i C' => wY_keep_14 post (nI s) n (nI i) A B C' D) (fun i C' => (∀ n, n < i → C' (256 * s + n) = cu_b (T (cu_q n))) ∧ (∀ j, (j < 256 * s ∨ 256 * s + i ≤ j) → C' j = C j)) 256 C ⟨lt_0, fun _ _ => rfl⟩ ?_ ?_
  · rintro n C' ⟨g1, g2⟩
    refine br_t (by decide) (cu_ycells hs g1 (h2 z C' (fun s' n hs' hn => ?_)))
    by_cases hh : s' = s
    · subst hh
      rw [g1 n hn, cu_put, if_pos rfl]
    · rw [g2 _ (by omega), hM s' n hs' hn, cu_put, if_neg hh]
  · rintro n i C' hi ⟨g1, g2⟩ ih
    have v : D (nI i).toNatClampNeg = cu_b (T (cu_q i)) := by rw [nI_clamp (by omega)]; exact hT i hi
    refine br_f (nI_ge (b := 256) hi (by decide)) ⟨vp_in_nI hi (by decide), pk_in (256 * s + i) 1024 (by omega) (cu_iy s i), ?_⟩
    refine nm_r (e' := upd C' (256 * s + i) (cu_b (T (cu_q i)))) (by rw [v, cu_nar, pk_cl (256 * s + i) (cu_iy s i) (by omega)]) (nm_r (nI_1 i) (ih _ ⟨lt_s (fun m hm => ?_) pk_us, fun j hj => ?_⟩))
    · rw [pk_un (by omega)]; exact g1 m hm
    · rw [pk_un (by omega)]; exact g2 j (by omega)
