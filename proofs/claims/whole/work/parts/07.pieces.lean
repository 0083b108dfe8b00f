theorem cu_blk : ∀ l, l < 5 → ∀ n, n < 256 → n / cu_L l * cu_L l + cu_L l ≤ 256 ∧ n / cu_L l * cu_L l ≤ n := by decide +kernel
theorem cu_fn {l n : Nat} (hl : l < 5) (hn : n < 256) : cu_f l (cu_p n / 16 / cu_w l) (cu_p n % 16 / cu_w l) = n / cu_L l := cu_gA l hl n hn
theorem cu_sl {post : Int32 → Prop} {l : Nat} (hl : l < 5) (h : post (nI (cu_L l))) : wpX_squareLength post (nI l) := by
  unfold wpX_squareLength
  rw [(cu_shr l hl).2.2.1]; exact h
/-- is the square of level l about n wholly in -/
def cu_fu (T : Nat → Bool) (l n : Nat) : Bool := decide (cu_n (fun i => T (n / cu_L l * cu_L l + i)) (cu_L l) = cu_L l)
theorem cu_fuI {T : Nat → Bool} {l n : Nat} (hl : l < 5) (hn : n < 256) : cu_fu T l n = true ↔ ∀ c, c < 256 → cu_q c / cu_L l = n / cu_L l → T (cu_q c) = true := by
  have hL := cu_Lpos l
  have hb := cu_blk l hl n hn
  unfold cu_fu
  rw [decide_eq_true_iff, cu_nall]
  constructor
  · intro h c hc e
    have h' := h (cu_q c % cu_L l) (Nat.mod_lt _ hL)
    rw [← e, Nat.mul_comm, Nat.div_add_mod] at h'
    exact h'
  · intro h i hi
    have hm : n / cu_L l * cu_L l + i < 256 := by omega
    have h' := h (cu_p (n / cu_L l * cu_L l + i)) (cu_plt _)
    rw [cu_qp _ hm] at h'
    exact h' (by rw [Nat.mul_comm, Nat.mul_add_div hL, Nat.div_eq_of_lt hi, Nat.add_zero])
theorem cu_fuT {T : Nat → Bool} {l n : Nat} (hl : l < 5) (hn : n < 256) (h : cu_fu T l n = true) : T n = true := by
  have h' := (cu_fuI hl hn).mp h (cu_p n) (cu_plt n)
  rw [cu_qp n hn] at h'
  exact h' rfl
theorem cu_fu4 {T : Nat → Bool} {n : Nat} (hn : n < 256) : cu_fu T 4 n = T n := by
  have h : cu_fu T 4 n = true ↔ T n = true := by
    constructor
    · exact cu_fuT (by decide) hn
    · intro h
      rw [cu_fuI (by decide) hn]
      intro c hc e
      have e1 : cu_L 4 = 1 := rfl
      rw [e1, Nat.div_one, Nat.div_one] at e
      rw [e]; exact h
  cases h1 : cu_fu T 4 n <;> cases h2 : T n <;> simp_all
def cu_lx (T : Nat → Bool) (n : Nat) : Nat → Nat → Option Nat
  | 0, _ => none
  | d + 1, l => if cu_fu T l n = true then (if n / cu_L l * cu_L l = n then some l else none) else cu_lx T n d (l + 1)
def cu_ly (T : Nat → Bool) (n : Nat) : Nat → Nat → Nat
  | 0, _ => 4
  | d + 1, l => if cu_fu T l n = true then l else cu_ly T n d (l + 1)
def cu_en : Option Nat → Int32
  | none => -3
  | some l => nI l
def cu_pc (T : Nat → Bool) (n : Nat) : Option Nat := if T n = true then (if n / cu_L (cu_ly T n 4 0) * cu_L (cu_ly T n 4 0) = n then some (cu_ly T n 4 0) else none) else none
theorem cu_lylt (T : Nat → Bool) (n : Nat) : ∀ d l, l + d = 4 → cu_ly T n d l < 5 := by
  intro d
  induction d with
  | zero => intro l _; exact (by decide : 4 < 5)
  | succ d ih =>
    intro l hl
    rw [cu_ly]
    split
    · omega
    · exact ih (l + 1) (by omega)
theorem cu_lxy {T : Nat → Bool} {n : Nat} (hn : n < 256) : ∀ d l, l + d = 4 → cu_lx T n (d + 1) l = if T n = true then (if n / cu_L (cu_ly T n d l) * cu_L (cu_ly T n d l) = n then some (cu_ly T n d l) else none) else none := by
  intro d
  induction d with
  | zero =>
    intro l hl
    have : l = 4 := by omega
    subst this
    rw [cu_lx, cu_fu4 hn, cu_lx, cu_ly]
  | succ d ih =>
    intro l hl
    rw [cu_lx, cu_ly]
    by_cases h : cu_fu T l n = true
    · rw [if_pos h, if_pos h, if_pos (cu_fuT (by omega) hn h)]
    · rw [if_neg h, if_neg h]
      exact ih (l + 1) (by omega)
theorem cu_xlv {post : Int32 → Prop} {a b : Nat → Int32} {s n : Nat} {T : Nat → Bool} (hs : s < 4) (hT : ∀ n, n < 256 → a (256 * s + n) = cu_b (T n)) (hn : n < 256) :
    ∀ d l, l + d = 5 → post (cu_en (cu_lx T n d l)) → wX_levelOfPieceFrom_2 post (nI s) (nI n) a b (d + 1) (nI l) := by
  intro d
  induction d with
  | zero =>
    intro l hl h
    have : l = 5 := by omega
    subst this
    exact br_t (by decide) h
  | succ d ih =>
    intro l hl h
    have hl5 : l < 5 := by omega
    have hb := cu_blk l hl5 n hn
    have hle := cu_nle (fun i => T (n / cu_L l * cu_L l + i)) (cu_L l)
    rw [cu_lx] at h
    refine br_f (nI_nlt (a := 4) (by omega) (by decide)) (cu_sl hl5 (nm_r (cu_neg l hl5 n hn) (cu_run (s := s) (by omega) hb.1 hT (pk_eq _ (cu_L l) (fun z => ?_) (fun z => ?_)))))
    · rw [if_pos (show cu_fu T l n = true from decide_eq_true z)] at h
      refine pk_eq (n / cu_L l * cu_L l) n (fun y => ?_) (fun y => ?_)
      · rw [if_pos y] at h; exact h
      · rw [if_neg y] at h; exact h
    · rw [if_neg (show ¬ cu_fu T l n = true from fun y => z (of_decide_eq_true y))] at h
      exact nm_r (nI_1 l) (ih (l + 1) (by omega) h)
theorem cu_xlev {post : Int32 → Prop} {a b : Nat → Int32} {s n : Nat} {T : Nat → Bool} (hs : s < 4) (hT : ∀ n, n < 256 → a (256 * s + n) = cu_b (T n)) (hn : n < 256) (h : post (cu_en (cu_pc T n))) : wpX_levelOfPieceFrom post (a, b) (nI s) (nI n) := by
  refine ⟨6, cu_xlv hs hT hn 5 0 rfl ?_⟩
  rw [cu_lxy hn 4 0 rfl]
  exact h
/-- whole -/
theorem cu_ywhole {post : Int32 → Prop} {A B C D : Nat → Int32} {s l x y : Nat} {T : Nat → Bool} {W : Bool} (hs : s < 4) (hl : l < 5) (hx : x < 2 ^ l) (hy : y < 2 ^ l) (hT : ∀ c, c < 256 → C (256 * s + c) = cu_b (T (cu_q c)))
    (hW : W = true ↔ ∀ c, c < 256 → cu_q c / cu_L l = cu_f l x y → T (cu_q c) = true) (h : post (cu_b W)) : wpY_whole post (A, B, C, D) (nI s) (nI l) (nI x) (nI y) := by
  refine loop_0 (fun n i (_ : Unit) => wY_whole_3 post (nI s) (nI l) (nI x) (nI y) A B C D n (nI i)) (fun i _ => ∀ c, c < i → cu_q c / cu_L l = cu_f l x y → T (cu_q c) = true) 256 () lt_0 ?_ ?_
  · intro n _ g
    rw [hW.mpr g] at h
    exact br_t (by decide) h
  · intro n i _ hi g ih
    refine br_f (nI_ge (b := 256) hi (by decide)) (cu_yin hi hl hx hy ?_)
    by_cases z : cu_q i / cu_L l = cu_f l x y
    · have v : C (256 * nI s + nI i).toNatClampNeg = cu_b (T (cu_q i)) := cu_at _ (cu_iy s i) (by omega) (hT i hi)
      rw [decide_eq_true z]
      refine br_f (by decide) ⟨pk_in _ 1024 (by omega) (cu_iy s i), ?_⟩
      cases e : T (cu_q i) with
      | false =>
        have hw : W = false := by
          cases hw : W with
          | false => rfl
          | true =>
            have := hW.mp hw i hi z
            rw [e] at this
            exact this.symm
        rw [hw] at h
        exact br_t (v.trans (cu_b0 e)) h
      | true => exact br_f (fun z => cu_b1 e (v.symm.trans z)) (nm_r (nI_1 i) (ih () (lt_s g (fun _ => e))))
    · rw [decide_eq_false z]
      exact br_t rfl (nm_r (nI_1 i) (ih () (lt_s g (fun y => absurd y z))))
theorem cu_ylv {post : Int32 → Prop} {A B C D : Nat → Int32} {s n : Nat} {T : Nat → Bool} (hs : s < 4) (hT : ∀ c, c < 256 → C (256 * s + c) = cu_b (T (cu_q c))) (hn : n < 256) :
    ∀ d l, l + d = 4 → post (nI (cu_ly T n d l)) → wY_levelAt_2 post (nI s) (nI (cu_p n)) A B C D (d + 1) (nI l) := by
  have hc := cu_plt n
  have e1 : nI (cu_p n) / 16 = nI (cu_p n / 16) := pk_div (d := 16) (by omega) (by decide) (by decide)
  have e2 : nI (cu_p n) - nI (cu_p n) / 16 * 16 = nI (cu_p n % 16) := pk_rem (d := 16) (by omega) (by decide) (by decide)
  intro d
  induction d with
  | zero =>
    intro l hl h
    have : l = 4 := by omega
    subst this
    exact br_t (by decide) h
  | succ d ih =>
    intro l hl h
    have hl5 : l < 5 := by omega
    have hw := cu_wpos l
    have hp2 := cu_p2 l hl5
    have hab := cu_ab l hl5 (cu_p n) hc
    have hw0 : ¬ nI (cu_w l) = 0 := nI_ne0 hw (by omega)
    rw [cu_ly] at h
    refine br_f (nI_ge (b := 4) (by omega) (by decide)) (nm_r (cu_shr l hl5).1 (br_f (nI_nle hw (by omega)) ⟨by decide, hw0, by decide, hw0, ?_⟩))
    rw [e2, e1, pk_div (by omega) hw (by omega), pk_div (by omega) hw (by omega)]
    refine cu_ywhole (W := cu_fu T l n) hs hl5 hab.1 hab.2 hT (by rw [cu_fn hl5 hn]; exact cu_fuI hl5 hn) ?_
    cases e : cu_fu T l n with
    | false =>
      rw [if_neg (by rw [e]; decide)] at h
      exact br_t rfl (nm_r (nI_1 l) (ih (l + 1) (by omega) h))
    | true =>
      rw [if_pos e] at h
      exact br_f (by decide) h
theorem cu_ylev {post : Int32 → Prop} {A B C D : Nat → Int32} {s n : Nat} {T : Nat → Bool} (hs : s < 4) (hT : ∀ c, c < 256 → C (256 * s + c) = cu_b (T (cu_q c))) (hn : n < 256) (h : post (nI (cu_ly T n 4 0))) : wpY_levelAt post (A, B, C, D) (nI s) (nI (cu_p n)) :=
  ⟨5, cu_ylv hs hT hn 4 0 rfl h⟩
theorem cu_yfirst {post : Int32 → Prop} {A B C D : Nat → Int32} {n l : Nat} (hN : cu_N A) (hn : n < 256) (hl : l < 5) (h : post (nI (n / cu_L l * cu_L l))) : wpY_firstNumber post (A, B, C, D) (nI (cu_p n)) (nI l) := by
  have hc := cu_plt n
  have e1 : nI (cu_p n) / 16 = nI (cu_p n / 16) := pk_div (d := 16) (by omega) (by decide) (by decide)
  have e2 : nI (cu_p n) - nI (cu_p n) / 16 * 16 = nI (cu_p n % 16) := pk_rem (d := 16) (by omega) (by decide) (by decide)
  have hw := cu_wpos l
  have hp2 := cu_p2 l hl
  have hab := cu_ab l hl (cu_p n) hc
  have hw0 : ¬ nI (cu_w l) = 0 := nI_ne0 hw (by omega)
  have hb := cu_blk l hl n hn
  refine nm_r (cu_shr l hl).2.1 ?_
  refine loop_0 (fun m i x => wY_firstNumber_16 post (nI (cu_p n)) (nI l) (nI (cu_w l)) A B C D m x (nI i)) (fun i x => ∃ m, x = nI m ∧ m < 256 ∧ n / cu_L l * cu_L l ≤ m ∧ ∀ c, c < i → cu_q c / cu_L l = n / cu_L l → m ≤ cu_q c) 256 255 ⟨255, rfl, by decide, by omega, lt_0⟩ ?_ ?_
  · rintro m x ⟨r, rfl, hr, hr1, hr2⟩
    have h3 := hr2 (cu_p (n / cu_L l * cu_L l)) (cu_plt _)
    rw [cu_qp _ (by omega), Nat.mul_div_cancel _ (cu_Lpos l)] at h3
    have h4 := h3 rfl
    have h5 : r = n / cu_L l * cu_L l := by omega
    rw [← h5] at h
    exact br_t (by decide) h
  · rintro m i x hi ⟨r, rfl, hr, hr1, hr2⟩ ih
    refine br_f (nI_ge (b := 256) hi (by decide)) (br_f (nI_nle hw (by omega)) ⟨by decide, hw0, by decide, hw0, ?_⟩)
    rw [e2, e1, pk_div (by omega) hw (by omega), pk_div (by omega) hw (by omega)]
    refine cu_yin hi hl hab.1 hab.2 ?_
    rw [cu_fn hl hn]
    by_cases z : cu_q i / cu_L l = n / cu_L l
    · have hq := cu_qlt i
      have v : A (nI i).toNatClampNeg = nI (cu_q i) := by rw [nI_clamp (by omega)]; exact hN i hi
      rw [decide_eq_true z]
      refine br_f (by decide) ⟨vp_in_nI hi (by decide), pk_le r (cu_q i) (fun y => ?_) (fun y => ?_) rfl v⟩
      · exact nm_r (nI_1 i) (ih _ ⟨r, rfl, hr, hr1, lt_s hr2 (fun _ => y)⟩)
      · refine ⟨vp_in_nI hi (by decide), nm_r v (nm_r (nI_1 i) (ih _ ⟨cu_q i, rfl, hq, ?_, lt_s (fun c hc e => ?_) (fun _ => Nat.le_refl _)⟩))⟩
        · rw [← z]; exact Nat.div_mul_le_self _ _
        · have := hr2 c hc e
          omega
    · rw [decide_eq_false z]
      exact br_t rfl (nm_r (nI_1 i) (ih _ ⟨r, rfl, hr, hr1, lt_s hr2 (fun y => absurd y z)⟩))
theorem cu_enS (l : Nat) (hl : l < 5) : ¬ cu_en (some l) = -3 := by
  revert l
  decide +kernel
theorem cu_pcn {T : Nat → Bool} {n : Nat} (h : T n = false) : cu_pc T n = none := by rw [cu_pc, if_neg (by rw [h]; decide)]
theorem cu_pcy {T : Nat → Bool} {n : Nat} (h : T n = true) (e : n / cu_L (cu_ly T n 4 0) * cu_L (cu_ly T n 4 0) = n) : cu_pc T n = some (cu_ly T n 4 0) := by rw [cu_pc, if_pos h, if_pos e]
theorem cu_pcz {T : Nat → Bool} {n : Nat} (h : T n = true) (e : ¬ n / cu_L (cu_ly T n 4 0) * cu_L (cu_ly T n 4 0) = n) : cu_pc T n = none := by rw [cu_pc, if_pos h, if_neg e]
theorem cu_pclt {T : Nat → Bool} {n l : Nat} (h : cu_pc T n = some l) : l < 5 := by
  rw [cu_pc] at h
  split at h
  · split at h
    · cases h
      exact cu_lylt T n 4 0 rfl
    · cases h
  · cases h
theorem i_vc_pieces {k : Nat} {u : SX} {v : SY} (I : i_Rel k u v) (hk : k + 5 ≤ 2560) (v1 : Int32) : wpX_pieces (fun r => wpY_pieces (fun r' => r' = r ∧ i_Rel (k + 5) u v) v v1) u v1 := by
  have J := i_up I
  obtain ⟨a, b⟩ := u
  obtain ⟨A, B, C, D⟩ := v
  obtain ⟨S, hH, hp, hN, hP, hM⟩ := I
  unfold wpX_pieces wpY_pieces
  refine cu_xis ?_
  cases h : cu_is v1 with
  | false => exact br_t rfl (cu_yis (by rw [h]; exact br_t rfl ⟨rfl, J⟩))
  | true =>
    obtain ⟨s, hs, rfl⟩ := cu_isT h
    have hX := fun n hn => hH s n hs hn
    have hY := fun n hn => hM s n hs hn
    refine br_f (by decide) ?_
    refine loop_0 (fun n i c => wX_pieces_13 _ (nI s) a b n c (nI i)) (fun i c => c = nI (cu_n (fun n => (cu_pc (S s) n).isSome) i)) 256 0 rfl ?_ ?_
    · intro n c hc
      refine br_t (by decide) (cu_yis ?_)
      rw [h, hc]
      refine br_f (by decide) ?_
      refine loop_0 (fun n i c => wY_pieces_14 _ (nI s) A B C D n c (nI i)) (fun i c => c = nI (cu_n (fun n => (cu_pc (S s) n).isSome) i)) 256 0 rfl ?_ ?_
      · intro n c hc
        exact br_t (by decide) ⟨hc, J⟩
      · intro n i c hi hc ih
        subst hc
        have v := cu_mk (T := S s) hs hP hY hi
        refine br_f (nI_ge (b := 256) hi (by decide)) ⟨vp_in_nI hi (by decide), v.1, ?_⟩
        cases e : S s i with
        | false => exact br_t (v.2.trans (cu_b0 e)) (nm_r (nI_1 i) (ih _ (congrArg nI (cu_nf (f := fun n => (cu_pc (S s) n).isSome) (by show (cu_pc (S s) i).isSome = false; rw [cu_pcn e]; rfl)).symm)))
        | true =>
          refine br_f (fun z => cu_b1 e (v.2.symm.trans z)) ⟨vp_in_nI hi (by decide), ?_⟩
          rw [cu_pl (B := B) hP hi]
          refine cu_ylev hs hY hi ⟨vp_in_nI hi (by decide), cu_yfirst hN hi (cu_lylt _ _ 4 0 rfl) ?_⟩
          have hb := cu_blk _ (cu_lylt (S s) i 4 0 rfl) i hi
          refine pk_eq _ i (fun y => ?_) (fun y => ?_)
          · exact nm_r (nI_1 _) (nm_r (nI_1 i) (ih _ (congrArg nI (cu_nt (f := fun n => (cu_pc (S s) n).isSome) (by show (cu_pc (S s) i).isSome = true; rw [cu_pcy e y]; rfl)).symm)))
          · exact nm_r (nI_1 i) (ih _ (congrArg nI (cu_nf (f := fun n => (cu_pc (S s) n).isSome) (by show (cu_pc (S s) i).isSome = false; rw [cu_pcz e y]; rfl)).symm))
    · intro n i c hi hc ih
      subst hc
      refine br_f (nI_ge (b := 256) hi (by decide)) (cu_xlev hs hX hi ?_)
      cases e : cu_pc (S s) i with
      | none => exact br_t rfl (nm_r (nI_1 i) (ih _ (congrArg nI (cu_nf (f := fun n => (cu_pc (S s) n).isSome) (by show (cu_pc (S s) i).isSome = false; rw [e]; rfl)).symm)))
      | some l => exact br_f (cu_enS l (cu_pclt e)) (nm_r (nI_1 _) (nm_r (nI_1 i) (ih _ (congrArg nI (cu_nt (f := fun n => (cu_pc (S s) n).isSome) (by show (cu_pc (S s) i).isSome = true; rw [e]; rfl)).symm))))
def cu_pA (T : Nat → Bool) (i : Nat) : Option Int32 := (cu_pc T i).map (fun l => nI (256 * l + i))
theorem cu_xpiece {post : Int32 → Prop} {a b : Nat → Int32} {s : Nat} {T : Nat → Bool} {k : Int32} (hs : s < 4) (hT : ∀ n, n < 256 → a (256 * s + n) = cu_b (T n)) :
    ∀ d i c, i + d = 256 → post (cu_kth (cu_pA T) k d i c) → wX_piece_14 post (nI s) k a b (d + 1) c (nI i) := by
  intro d
  induction d with
  | zero =>
    intro i c hi h
    have : i = 256 := by omega
    subst this
    exact br_t (by decide) h
  | succ d ih =>
    intro i c hi h
    refine br_f (nI_ge (b := 256) (by omega) (by decide)) (cu_xlev hs hT (by omega) ?_)
    cases e : cu_pc T i with
    | none =>
      rw [cu_kn (by rw [cu_pA, e]; rfl)] at h
      exact br_t rfl (nm_r (nI_1 i) (ih (i + 1) c (by omega) h))
    | some l =>
      have eA : cu_pA T i = some (nI (256 * l + i)) := by rw [cu_pA, e]; rfl
      refine br_f (cu_enS l (cu_pclt e)) ?_
      by_cases ec : c = k
      · rw [cu_ks eA ec, ← cu_iy] at h
        exact br_t ec h
      · rw [cu_kd eA ec] at h
        exact br_f ec (nm_e (nm_r (nI_1 i) (ih (i + 1) (c + 1) (by omega) h)))
theorem cu_ypiece {post : Int32 → Prop} {A B C D : Nat → Int32} {s : Nat} {T : Nat → Bool} {k : Int32} (hs : s < 4) (hN : cu_N A) (hP : cu_P B) (hT : ∀ c, c < 256 → C (256 * s + c) = cu_b (T (cu_q c))) :
    ∀ d i c, i + d = 256 → post (cu_kth (cu_pA T) k d i c) → wY_piece_15 post (nI s) k A B C D (d + 1) c (nI i) := by
  intro d
  induction d with
  | zero =>
    intro i c hi h
    have : i = 256 := by omega
    subst this
    exact br_t (by decide) h
  | succ d ih =>
    intro i c hi h
    have hi2 : i < 256 := by omega
    have v := cu_mk hs hP hT hi2
    refine br_f (nI_ge (b := 256) hi2 (by decide)) ⟨vp_in_nI hi2 (by decide), v.1, ?_⟩
    cases e : T i with
    | false =>
      rw [cu_kn (by rw [cu_pA, cu_pcn e]; rfl)] at h
      exact br_t (v.2.trans (cu_b0 e)) (nm_r (nI_1 i) (ih (i + 1) c (by omega) h))
    | true =>
      refine br_f (fun z => cu_b1 e (v.2.symm.trans z)) ⟨vp_in_nI hi2 (by decide), ?_⟩
      rw [cu_pl (B := B) hP hi2]
      refine cu_ylev hs hT hi2 ⟨vp_in_nI hi2 (by decide), cu_yfirst hN hi2 (cu_lylt _ _ 4 0 rfl) ?_⟩
      have hb := cu_blk _ (cu_lylt T i 4 0 rfl) i hi2
      refine pk_eq _ i (fun y => ?_) (fun y => ?_)
      · have eA : cu_pA T i = some (nI (256 * cu_ly T i 4 0 + i)) := by rw [cu_pA, cu_pcy e y]; rfl
        by_cases ec : c = k
        · rw [cu_ks eA ec, ← cu_iy] at h
          exact br_t ec h
        · rw [cu_kd eA ec] at h
          exact br_f ec (nm_e (nm_r (nI_1 i) (ih (i + 1) (c + 1) (by omega) h)))
      · rw [cu_kn (by rw [cu_pA, cu_pcz e y]; rfl)] at h
        exact nm_r (nI_1 i) (ih (i + 1) c (by omega) h)
theorem i_vc_piece {k : Nat} {u : SX} {v : SY} (I : i_Rel k u v) (hk : k + 5 ≤ 2560) (v1 : Int32) (v2 : Int32) : wpX_piece (fun r => wpY_piece (fun r' => r' = r ∧ i_Rel (k + 5) u v) v v1 v2) u v1 v2 := by
  have J := i_up I
  obtain ⟨a, b⟩ := u
  obtain ⟨A, B, C, D⟩ := v
  obtain ⟨S, hH, hp, hN, hP, hM⟩ := I
  unfold wpX_piece wpY_piece
  refine cu_xis ?_
  cases h : cu_is v1 with
  | false => exact br_t rfl (cu_yis (by rw [h]; exact br_t rfl ⟨rfl, J⟩))
  | true =>
    obtain ⟨s, hs, rfl⟩ := cu_isT h
    refine br_f (by decide) ⟨257, cu_xpiece hs (fun n hn => hH s n hs hn) 256 0 0 rfl (cu_yis ?_)⟩
    rw [h]
    exact br_f (by decide) ⟨257, cu_ypiece hs hN hP (fun c hc => hM s c hs hc) 256 0 0 rfl ⟨rfl, J⟩⟩
