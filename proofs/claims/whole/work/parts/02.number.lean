/-- one turn of the curve: quarter, then the next x, y -/
def cu_k (x y w : Int32) : Int32 := if x &&& w = 0 then (if y &&& w = 0 then 0 else 1) else (if y &&& w = 0 then 3 else 2)
def cu_sx (x y w : Int32) : Int32 := if cu_k x y w = 0 then y else if cu_k x y w = 3 then 15 - y else x
def cu_sy (x y w : Int32) : Int32 := if cu_k x y w = 0 then x else if cu_k x y w = 3 then 15 - x else y
theorem cu_two : ¬ (2 : Int32) = 0 := by decide
theorem cu_xstep {post : Int32 → Prop} {J : Int32 → Int32 → Int32 → Int32 → Prop} {x y n w : Int32} (h : J (cu_sx x y w) (cu_sy x y w) (4 * n + cu_k x y w) (w / 2)) :
    ((x &&& w) = 0 → wX_curveNumber_21 post J x y n w 0) ∧ (¬ (x &&& w) = 0 → wX_curveNumber_21 post J x y n w 1) := by
  by_cases hx : (x &&& w) = 0
  · by_cases hy : (y &&& w) = 0
    · have hk : cu_k x y w = 0 := by rw [cu_k, if_pos hx, if_pos hy]
      rw [cu_sx, cu_sy, if_pos hk, if_pos hk, hk] at h
      exact br_t hx (br_t hy (br_t rfl (br_t rfl (nm_e (br_t rfl ⟨cu_two, nm_e h⟩)))))
    · have hk : cu_k x y w = 1 := by rw [cu_k, if_pos hx, if_neg hy]
      rw [cu_sx, cu_sy, hk] at h
      exact br_t hx (br_f hy (br_t rfl (br_f (by decide) (nm_e (br_f (by decide) (br_f (by decide) ⟨cu_two, nm_e h⟩))))))
  · by_cases hy : (y &&& w) = 0
    · have hk : cu_k x y w = 3 := by rw [cu_k, if_neg hx, if_pos hy]
      rw [cu_sx, cu_sy, hk] at h
      exact br_f hx (br_t hy (br_f (by decide) (br_t rfl (nm_e (br_f (by decide) (br_t rfl (nm_e (nm_e ⟨cu_two, nm_e h⟩))))))))
    · have hk : cu_k x y w = 2 := by rw [cu_k, if_neg hx, if_neg hy]
      rw [cu_sx, cu_sy, hk] at h
      exact br_f hx (br_f hy (br_f (by decide) (br_f (by decide) (nm_e (br_f (by decide) (br_f (by decide) ⟨cu_two, nm_e h⟩))))))
theorem cu_ystep {post : Int32 → Prop} {J : Int32 → Int32 → Int32 → Int32 → Int32 → Prop} {A B C D : Nat → Int32} {x y n w k : Int32} (h : J (cu_sx x y w) (cu_sy x y w) (4 * n + cu_k x y w) (w / 2) (k + 1)) :
    ((x &&& w) = 0 → wY_numberOf_33 post J x y n w k 0 A B C D) ∧ (¬ (x &&& w) = 0 → wY_numberOf_33 post J x y n w k 1 A B C D) := by
  by_cases hx : (x &&& w) = 0
  · by_cases hy : (y &&& w) = 0
    · have hk : cu_k x y w = 0 := by rw [cu_k, if_pos hx, if_pos hy]
      rw [cu_sx, cu_sy, if_pos hk, if_pos hk, hk] at h
      exact br_t hx (br_t hy (br_t rfl (br_t rfl (nm_e (br_t rfl (br_f (by decide) ⟨cu_two, nm_e (nm_e h)⟩))))))
    · have hk : cu_k x y w = 1 := by rw [cu_k, if_pos hx, if_neg hy]
      rw [cu_sx, cu_sy, hk] at h
      exact br_t hx (br_f hy (br_t rfl (br_f (by decide) (nm_e (br_f (by decide) (br_f (by decide) ⟨cu_two, nm_e (nm_e h)⟩))))))
  · by_cases hy : (y &&& w) = 0
    · have hk : cu_k x y w = 3 := by rw [cu_k, if_neg hx, if_pos hy]
      rw [cu_sx, cu_sy, hk] at h
      exact br_f hx (br_t hy (br_f (by decide) (br_t rfl (nm_e (br_f (by decide) (br_t rfl (nm_e (nm_e ⟨cu_two, nm_e (nm_e h)⟩))))))))
    · have hk : cu_k x y w = 2 := by rw [cu_k, if_neg hx, if_neg hy]
      rw [cu_sx, cu_sy, hk] at h
      exact br_f hx (br_f hy (br_f (by decide) (br_f (by decide) (nm_e (br_f (by decide) (br_f (by decide) ⟨cu_two, nm_e (nm_e h)⟩))))))
/-- the four turns -/
def cu_cv : Nat → Int32 → Int32 → Int32 → Int32 → Int32
  | 0, _, _, n, _ => n
  | d + 1, x, y, n, w => cu_cv d (cu_sx x y w) (cu_sy x y w) (4 * n + cu_k x y w) (w / 2)
theorem cu_cvq : ∀ x, x < 16 → ∀ y, y < 16 → cu_cv 4 (nI x) (nI y) 0 8 = nI (cu_q (16 * x + y)) ∧ nI (cu_q (16 * x + y)) &&& 255 = nI (cu_q (16 * x + y)) := by decide +kernel
theorem cu_xnum {post : Int32 → Prop} {x y : Nat} (hx : x < 16) (hy : y < 16) (h : post (nI (cu_q (16 * x + y)))) : wpX_curveNumber post (nI x) (nI y) := by
  rw [← (cu_cvq x hx y hy).1] at h
  exact ⟨5, br_f (by decide) (cu_xstep (br_f (by decide) (cu_xstep (br_f (by decide) (cu_xstep (br_f (by decide) (cu_xstep (br_t (by decide) h))))))))⟩
theorem cu_ynum {post : Int32 → Prop} {A B C D : Nat → Int32} {x y : Nat} (hx : x < 16) (hy : y < 16) (h : post (nI (cu_q (16 * x + y)))) : wpY_numberOf post (A, B, C, D) (nI x) (nI y) := by
  rw [← (cu_cvq x hx y hy).2, ← (cu_cvq x hx y hy).1] at h
  exact ⟨5, br_f (by decide) (cu_ystep (br_f (by decide) (cu_ystep (br_f (by decide) (cu_ystep (br_f (by decide) (cu_ystep (br_t (by decide) h))))))))⟩
/-- the relation -/
def cu_H (S : Nat → Nat → Bool) (a : Nat → Int32) : Prop := ∀ s n, s < 4 → n < 256 → a (256 * s + n) = cu_b (S s n)
def cu_M (S : Nat → Nat → Bool) (a : Nat → Int32) : Prop := ∀ s c, s < 4 → c < 256 → a (256 * s + c) = cu_b (S s (cu_q c))
def cu_P (a : Nat → Int32) : Prop := ∀ n, n < 256 → a n = nI (cu_p n)
def cu_N (a : Nat → Int32) : Prop := ∀ c, c < 256 → a c = nI (cu_q c)
def i_Rel (_ : Nat) (u : SX) (v : SY) : Prop := ∃ S : Nat → Nat → Bool, cu_H S u.1 ∧ cu_P u.2 ∧ cu_N v.1 ∧ cu_P v.2.1 ∧ cu_M S v.2.2.1
theorem i_up {k : Nat} {u : SX} {v : SY} (h : i_Rel k u v) : i_Rel (k + 5) u v := h
/-- places filled for the first i cells -/
def cu_F (i : Nat) (a : Nat → Int32) : Prop := ∀ c, c < i → a (cu_q c) = nI c
theorem cu_Fs {i : Nat} {a : Nat → Int32} (hi : i < 256) (h : cu_F i a) : cu_F (i + 1) (upd a (cu_q i) (nI i)) := by
  refine lt_s (fun c hc => ?_) pk_us
  rw [pk_un]
  · exact h c hc
  · intro e
    have e2 := congrArg cu_p e
    rw [cu_pq c (by omega), cu_pq i hi] at e2
    omega
theorem cu_FP {a : Nat → Int32} (h : cu_F 256 a) : cu_P a := fun n hn => by
  have := h (cu_p n) (cu_plt n)
  rw [cu_qp n hn] at this
  exact this
theorem cu_xinit {post : SX → Prop} (h : ∀ a, cu_P a → post ((fun _ => 0), a)) : wpX_init post := by
  refine loop_0 (fun n i a => wX_init_24 post n (nI i) (fun _ => 0) a) (fun i a => cu_F (16 * i) a) 16 (fun _ => 0) (fun c hc => absurd hc (Nat.not_lt_zero c)) ?_ ?_
  · intro n a ha
    exact br_t (by decide) (h a (cu_FP ha))
  · intro n x a hx ha ih
    refine br_f (nI_ge (b := 16) hx (by decide)) ?_
    refine loop_0 (fun n j a => wX_init_32 post (wX_init_24 post _) (nI x) n (nI j) (fun _ => 0) a) (fun j a => cu_F (16 * x + j) a) 16 a ha ?_ ?_
    · intro m a ha
      exact br_t (by decide) (nm_r (nI_1 x) (ih a ha))
    · intro m y a hy ha ih2
      refine br_f (nI_ge (b := 16) hy (by decide)) (cu_xnum hx hy ⟨pk_in (cu_q (16 * x + y)) 256 (cu_qlt _), ?_⟩)
      refine nm_r (e' := upd a (cu_q (16 * x + y)) (nI (16 * x + y))) (by rw [cu_xy, pk_cl (cu_q (16 * x + y)) rfl (by have := cu_qlt (16 * x + y); omega)]) ?_
      exact nm_r (nI_1 y) (ih2 _ (cu_Fs (i := 16 * x + y) (by omega) ha))
theorem cu_yinit {post : SY → Prop} (h : ∀ a b, cu_N a → cu_P b → post (a, b, (fun _ => 0), (fun _ => 0))) : wpY_init post := by
  refine loop_0 (fun n i (s : (Nat → Int32) × (Nat → Int32)) => wY_init_42 post n (nI i) s.1 s.2 (fun _ => 0) (fun _ => 0)) (fun i s => (∀ c, c < i → s.1 c = nI (cu_q c)) ∧ cu_F i s.2) 256 ((fun _ => 0), (fun _ => 0)) ⟨fun c hc => absurd hc (Nat.not_lt_zero c), fun c hc => absurd hc (Nat.not_lt_zero c)⟩ ?_ ?_
  · rintro n ⟨a, b⟩ ⟨ha, hb⟩
    exact br_t (by decide) (h a b ha (cu_FP hb))
  · rintro n i ⟨a, b⟩ hi ⟨ha, hb⟩ ih
    have e1 : nI i / 16 = nI (i / 16) := pk_div (d := 16) (by omega) (by decide) (by decide)
    have e2 : nI i - nI i / 16 * 16 = nI (i % 16) := pk_rem (d := 16) (by omega) (by decide) (by decide)
    have e3 : 16 * (i / 16) + i % 16 = i := by omega
    have ec : (nI i).toNatClampNeg = i := nI_clamp (by omega)
    refine br_f (nI_ge (b := 256) hi (by decide)) ⟨by decide, by decide, ?_⟩
    rw [e1, ← e1, e2, e1]
    refine cu_ynum (x := i / 16) (y := i % 16) (by omega) (by omega) ⟨vp_in_nI hi (by decide), ?_⟩
    rw [e3]
    refine nm_r (e' := upd a i (nI (cu_q i))) (by rw [ec]) ⟨vp_in_nI hi (by decide), ?_⟩
    rw [ec, pk_us]
    refine ⟨vp_in_nI (cu_qlt i) (by decide), nm_r (e' := upd b (cu_q i) (nI i)) (by rw [nI_clamp (by have := cu_qlt i; omega)]) (nm_r (nI_1 i) ?_)⟩
    refine ih (upd a i (nI (cu_q i)), upd b (cu_q i) (nI i)) ⟨lt_s (fun c hc => ?_) pk_us, cu_Fs hi hb⟩
    show upd a i (nI (cu_q i)) c = _
    rw [pk_un (by omega)]
    exact ha c hc
theorem i_vc0 : wpX_init (fun u => wpY_init (fun v => i_Rel 0 u v)) :=
  cu_xinit fun _ hp => cu_yinit fun _ _ hn hq => ⟨fun _ _ => false, fun _ _ _ _ => rfl, hp, hn, hq, fun _ _ _ _ => rfl⟩
