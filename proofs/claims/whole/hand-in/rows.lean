section
theorem pk_us {f : Nat → Int32} {k : Nat} {x : Int32} : upd f k x k = x := if_pos rfl
theorem pk_un {f : Nat → Int32} {k j : Nat} {x : Int32} (h : j ≠ k) : upd f k x j = f j := if_neg h
theorem pk_sub {a b : Nat} (h : b ≤ a) : nI a - nI b = nI (a - b) := by
  obtain ⟨c, rfl⟩ : ∃ c, a = c + b := ⟨a - b, by omega⟩
  rw [← nI_add, Int32.add_sub_cancel, Nat.add_sub_cancel]
theorem pk_mul (a b : Nat) : nI a * nI b = nI (a * b) := (Int32.ofNat_mul a b).symm
theorem pk_div {a d : Nat} (ha : a < 2 ^ 31) (h0 : 0 < d) (hd : d < 2 ^ 31) : nI a / nI d = nI (a / d) := by
  apply Int32.toInt_inj.mp
  rw [lg_idiv_nonneg (by rw [nI_toInt ha]; omega) (by rw [nI_toInt hd]; omega), nI_toInt ha, nI_toInt hd, nI_toInt (Nat.lt_of_le_of_lt (Nat.div_le_self a d) ha)]
  first | rfl | exact (Int.natCast_ediv _ _).symm
theorem pk_rem {a d : Nat} (ha : a < 2 ^ 31) (h0 : 0 < d) (hd : d < 2 ^ 31) : nI a - nI a / nI d * nI d = nI (a % d) := by
  rw [pk_div ha h0 hd, pk_mul, pk_sub (Nat.div_mul_le_self a d)]
  exact congrArg nI (by have := Nat.div_add_mod' a d; omega)
theorem pk_ix (x : Int32) {n : Nat} (hn : n < 2 ^ 31) : x < 0 ∨ nI n ≤ x ∨ ∃ j : Nat, j < n ∧ x = nI j := by
  by_cases h : x < 0
  · exact Or.inl h
  · obtain ⟨j, hj, rfl⟩ := nI_of h
    by_cases h2 : j < n
    · exact Or.inr (Or.inr ⟨j, h2, rfl⟩)
    · exact Or.inr (Or.inl (nI_le (by omega) hj))
theorem pk_le {x y : Int32} {A B : Prop} (a b : Nat) (f : a ≤ b → A) (g : b < a → B) (hx : x = nI a := by rfl) (hy : y = nI b := by rfl) (ha : a < 2 ^ 31 := by omega) (hb : b < 2 ^ 31 := by omega) : (x ≤ y → A) ∧ (¬ x ≤ y → B) := by
  subst hx hy
  rw [nI_leI ha hb]
  exact ⟨f, fun z => g (by omega)⟩
theorem pk_lt {x y : Int32} {A B : Prop} (a b : Nat) (f : a < b → A) (g : b ≤ a → B) (hx : x = nI a := by rfl) (hy : y = nI b := by rfl) (ha : a < 2 ^ 31 := by omega) (hb : b < 2 ^ 31 := by omega) : (x < y → A) ∧ (¬ x < y → B) := by
  subst hx hy
  rw [nI_ltI ha hb]
  exact ⟨f, fun z => g (by omega)⟩
theorem pk_eq {x y : Int32} {A B : Prop} (a b : Nat) (f : a = b → A) (g : a ≠ b → B) (hx : x = nI a := by rfl) (hy : y = nI b := by rfl) (ha : a < 2 ^ 31 := by omega) (hb : b < 2 ^ 31 := by omega) : (x = y → A) ∧ (¬ x = y → B) := by
  subst hx hy
  rw [nI_eq ha hb]
  exact ⟨f, g⟩
theorem pk_in {x : Int32} (n N : Nat) (h : n < N) (hx : x = nI n := by rfl) (hN : N < 2 ^ 31 := by omega) : vp_in x N := by
  subst hx
  exact vp_in_nI h hN
theorem pk_cl {x : Int32} (n : Nat) (hx : x = nI n := by rfl) (h : n < 2 ^ 31 := by omega) : x.toNatClampNeg = n := by
  subst hx
  exact nI_clamp h
/-- a boolean as it is stored -/
def cu_b (x : Bool) : Int32 := if x then 1 else 0
theorem cu_b0 {x : Bool} (h : x = false) : cu_b x = 0 := by rw [h]; rfl
theorem cu_b1 {x : Bool} (h : x = true) : ¬ cu_b x = 0 := by rw [h]; decide
theorem cu_nar (x : Bool) : vp_nar .boolean (cu_b x) = cu_b x := by cases x <;> rfl
theorem cu_nar0 : vp_nar .boolean 0 = cu_b false := rfl
theorem cu_nar1 : vp_nar .boolean 1 = cu_b true := rfl
/-- the curve number of cell c, the cell of curve number n: tables, a byte each -/
def cu_q (c : Nat) : Nat := (21545167722872558231979247679837972729682062819497595327110723488655687014187674845038953427632747796173202759182395933508872770667168069313494568756521860675655747052782741094487855649206100838345461708518251446993562580594685493853975319556215827999418662194850690990897633840329966815310542076803918817306288115658611017922614414558824683103263652732987202050269811340900126196011595750007285587683872384850907904838296336439497181391296067830847539918472282135880667708982310087503830218659408559573969992626545155103997525809959332700331041836229673174860007264622589627878342886786646011791856765814262148104960 >>> (8 * c)) % 256
def cu_p (n : Nat) : Nat := (30408086934043192961649600209740466757075828876649164152734291922043026255382171430763587917472778751212558110172610720360605928808483804574973559385916208954525609215903837843000151112805881771489437874639450031181997677015289019670362186065028377478773792424561081505218425976800327622956637360561298459737444249059153179105563704272894159079162627019585989641386086566953776209356661773582209630354820041857348786390659715727480168923321124592454724163918045470569946455690079650625421932374993621850579539901015918063288112315372304324238372392439748899316666120169663455573880476639180706639021436234982231183360 >>> (8 * n)) % 256
theorem cu_qlt (c : Nat) : cu_q c < 256 := Nat.mod_lt _ (by decide)
theorem cu_plt (n : Nat) : cu_p n < 256 := Nat.mod_lt _ (by decide)
theorem cu_pq : ∀ c, c < 256 → cu_p (cu_q c) = c := by decide +kernel
theorem cu_qp : ∀ n, n < 256 → cu_q (cu_p n) = n := by decide +kernel
/-- side and length of a square of level l -/
def cu_w (l : Nat) : Nat := 2 ^ (4 - l)
def cu_L (l : Nat) : Nat := 4 ^ (4 - l)
theorem cu_wpos (l : Nat) : 0 < cu_w l := Nat.two_pow_pos _
theorem cu_Lpos (l : Nat) : 0 < cu_L l := Nat.pow_pos (by decide)
theorem cu_gA : ∀ l, l < 5 → ∀ n, n < 256 → cu_q (16 * (cu_p n / 16 / cu_w l * cu_w l) + cu_p n % 16 / cu_w l * cu_w l) / cu_L l = n / cu_L l := by decide +kernel
theorem cu_gB : ∀ l, l < 5 → ∀ n, n < 256 → cu_p (n / cu_L l * cu_L l) / 16 / cu_w l = cu_p n / 16 / cu_w l ∧ cu_p (n / cu_L l * cu_L l) % 16 / cu_w l = cu_p n % 16 / cu_w l := by decide +kernel
theorem cu_gC : ∀ l, l < 5 → ∀ a, a < 2 ^ l → ∀ b, b < 2 ^ l → 16 * (a * cu_w l) + b * cu_w l < 256 ∧ (16 * (a * cu_w l) + b * cu_w l) / 16 / cu_w l = a ∧ (16 * (a * cu_w l) + b * cu_w l) % 16 / cu_w l = b := by decide +kernel
/-- the square (l, a, b) as a number of its level: where it stands along the curve -/
def cu_f (l a b : Nat) : Nat := cu_q (16 * (a * cu_w l) + b * cu_w l) / cu_L l
theorem cu_geo {l c a b : Nat} (hl : l < 5) (hc : c < 256) (ha : a < 2 ^ l) (hb : b < 2 ^ l) : (c / 16 / cu_w l = a ∧ c % 16 / cu_w l = b) ↔ cu_q c / cu_L l = cu_f l a b := by
  constructor
  · rintro ⟨rfl, rfl⟩
    have h := cu_gA l hl (cu_q c) (cu_qlt c)
    rw [cu_pq c hc] at h
    exact h.symm
  · intro h
    obtain ⟨h1, h2, h3⟩ := cu_gC l hl a ha b hb
    have hA := cu_gB l hl (cu_q c) (cu_qlt c)
    have hB := cu_gB l hl (cu_q (16 * (a * cu_w l) + b * cu_w l)) (cu_qlt _)
    rw [cu_pq c hc] at hA
    rw [cu_pq _ h1] at hB
    unfold cu_f at h
    rw [h] at hA
    rw [h2, h3] at hB
    exact ⟨hA.1.symm.trans hB.1, hA.2.symm.trans hB.2⟩
theorem cu_ab : ∀ l, l < 5 → ∀ c, c < 256 → c / 16 / cu_w l < 2 ^ l ∧ c % 16 / cu_w l < 2 ^ l := by decide +kernel
theorem cu_flt : ∀ l, l < 5 → ∀ a, a < 2 ^ l → ∀ b, b < 2 ^ l → (cu_f l a b + 1) * cu_L l ≤ 256 := by decide +kernel
/-- how many of the first i are so -/
def cu_n (f : Nat → Bool) : Nat → Nat
  | 0 => 0
  | i + 1 => cu_n f i + if f i then 1 else 0
theorem cu_nle (f : Nat → Bool) (i : Nat) : cu_n f i ≤ i := by
  induction i with
  | zero => exact Nat.le_refl 0
  | succ i ih => unfold cu_n; split <;> omega
theorem cu_nt {f : Nat → Bool} {i : Nat} (h : f i = true) : cu_n f (i + 1) = cu_n f i + 1 := by rw [cu_n, if_pos h]
theorem cu_nf {f : Nat → Bool} {i : Nat} (h : f i = false) : cu_n f (i + 1) = cu_n f i := by rw [cu_n, if_neg (by rw [h]; decide)]; rfl
theorem cu_ncount (f : Nat → Bool) (i : Nat) : cu_n f i = (List.range i).countP f := by
  induction i with
  | zero => rfl
  | succ i ih =>
    rw [List.range_succ, List.countP_append, cu_n, ih]
    cases h : f i <;> simp [h]
theorem cu_nperm {g : Nat → Nat} {N : Nat} (h : ((List.range N).map g).Perm (List.range N)) (f : Nat → Bool) : cu_n (fun i => f (g i)) N = cu_n f N := by
  rw [cu_ncount, cu_ncount, ← h.countP_eq f, List.countP_map]
  rfl
theorem cu_permq : ((List.range 256).map cu_q).Perm (List.range 256) := List.isPerm_iff.mp (by decide +kernel)
theorem cu_nq (f : Nat → Bool) : cu_n (fun c => f (cu_q c)) 256 = cu_n f 256 := cu_nperm cu_permq f
theorem cu_ncongr {f g : Nat → Bool} {N : Nat} (h : ∀ i, i < N → f i = g i) : cu_n f N = cu_n g N := by
  induction N with
  | zero => rfl
  | succ N ih => rw [cu_n, cu_n, ih (fun i hi => h i (by omega)), h N (by omega)]
theorem cu_nall {f : Nat → Bool} {N : Nat} : cu_n f N = N ↔ ∀ i, i < N → f i = true := by
  induction N with
  | zero => exact ⟨fun _ i hi => absurd hi (Nat.not_lt_zero i), fun _ => rfl⟩
  | succ N ih =>
    constructor
    · intro h i hi
      have hle := cu_nle f N
      cases hN : f N with
      | false => rw [cu_nf hN] at h; omega
      | true =>
        rw [cu_nt hN] at h
        rcases Nat.lt_or_ge i N with z | z
        · exact ih.mp (by omega) i z
        · have : i = N := by omega
          rw [this]; exact hN
    · intro h
      rw [cu_nt (h N (by omega)), ih.mpr (fun i hi => h i (by omega))]
theorem cu_npos {f : Nat → Bool} {N : Nat} : 0 < cu_n f N ↔ ∃ i, i < N ∧ f i = true := by
  induction N with
  | zero => exact ⟨fun h => absurd h (Nat.lt_irrefl 0), fun ⟨i, hi, _⟩ => absurd hi (Nat.not_lt_zero i)⟩
  | succ N ih =>
    cases hN : f N with
    | false =>
      rw [cu_nf hN, ih]
      constructor
      · rintro ⟨i, hi, h⟩; exact ⟨i, by omega, h⟩
      · rintro ⟨i, hi, h⟩
        rcases Nat.lt_or_ge i N with z | z
        · exact ⟨i, z, h⟩
        · have : i = N := by omega
          rw [this, hN] at h
          exact absurd h (by decide)
    | true =>
      rw [cu_nt hN]
      exact ⟨fun _ => ⟨N, by omega, hN⟩, fun _ => by omega⟩
/-- indices -/
theorem cu_ix (s n : Nat) : nI s * 256 + nI n = nI (256 * s + n) := by
  rw [show (256 : Int32) = nI 256 from rfl, pk_mul, nI_add, Nat.mul_comm]
theorem cu_iy (s n : Nat) : 256 * nI s + nI n = nI (256 * s + n) := by
  rw [show (256 : Int32) = nI 256 from rfl, pk_mul, nI_add]
theorem cu_ix3 (s f n : Nat) : nI s * 256 + nI f + nI n = nI (256 * s + (f + n)) := by
  rw [cu_ix, nI_add, Nat.add_assoc]
theorem cu_id (f n : Nat) : 1024 + nI f + nI n = nI (1024 + (f + n)) := by
  rw [show (1024 : Int32) = nI 1024 from rfl, nI_add, nI_add, Nat.add_assoc]
theorem cu_id1 (n : Nat) : 1024 + nI n = nI (1024 + n) := by
  rw [show (1024 : Int32) = nI 1024 from rfl, nI_add]
theorem cu_xy (x y : Nat) : 16 * nI x + nI y = nI (16 * x + y) := by
  rw [show (16 : Int32) = nI 16 from rfl, pk_mul, nI_add]
theorem cu_xy3 (s x y : Nat) : 256 * nI s + 16 * nI x + nI y = nI (256 * s + (16 * x + y)) := by
  rw [show (256 : Int32) = nI 256 from rfl, show (16 : Int32) = nI 16 from rfl, pk_mul, pk_mul, nI_add, nI_add, Nat.add_assoc]
/-- a value read at an index that is a number -/
theorem cu_at {a : Nat → Int32} {x : Int32} {v : Int32} (n : Nat) (hx : x = nI n) (h : n < 2 ^ 31) (e : a n = v) : a x.toNatClampNeg = v := by
  rw [pk_cl n hx h]; exact e
end
section
/-- one turn of the curve: quarter, then the next x, y -/
def cu_k (x y w : Int32) : Int32 := if x &&& w = 0 then (if y &&& w = 0 then 0 else 1) else (if y &&& w = 0 then 3 else 2)
def cu_sx (x y w : Int32) : Int32 := if cu_k x y w = 0 then y else if cu_k x y w = 3 then 15 - y else x
def cu_sy (x y w : Int32) : Int32 := if cu_k x y w = 0 then x else if cu_k x y w = 3 then 15 - x else y
theorem cu_two : ¬ (2 : Int32) = 0 := by decide
theorem cu_xstep {post : Int32 → Prop} {J : Int32 → Int32 → Int32 → Int32 → Prop} {x y n w : Int32} (h : J (cu_sx x y w) (cu_sy x y w) (4 * n + cu_k x y w) (w / 2)) :
    ((x &&& w) = 0 → wX_curveNumber_21 post J x y n w 0) ∧ (¬ (x &&& w) = 0 → wX_curveNumber_21 post J x y n w 1) := by
  by_cases hx : (x &&& w) = 0
  · by_cases hy : (y &&& w) = 0
    · have hk : cu_k x y w = 0 := by rw [cu_k, if_pos hx, if_pos hy]
      rw [cu_sx, cu_sy, if_pos hk, if_pos hk, hk] at h
      exact br_t hx (br_t hy (br_t rfl (br_t rfl (nm_e (br_t rfl ⟨cu_two, nm_e h⟩)))))
    · have hk : cu_k x y w = 1 := by rw [cu_k, if_pos hx, if_neg hy]
      rw [cu_sx, cu_sy, hk] at h
      exact br_t hx (br_f hy (br_t rfl (br_f (by decide) (nm_e (br_f (by decide) (br_f (by decide) ⟨cu_two, nm_e h⟩))))))
  · by_cases hy : (y &&& w) = 0
    · have hk : cu_k x y w = 3 := by rw [cu_k, if_neg hx, if_pos hy]
      rw [cu_sx, cu_sy, hk] at h
      exact br_f hx (br_t hy (br_f (by decide) (br_t rfl (nm_e (br_f (by decide) (br_t rfl (nm_e (nm_e ⟨cu_two, nm_e h⟩))))))))
    · have hk : cu_k x y w = 2 := by rw [cu_k, if_neg hx, if_neg hy]
      rw [cu_sx, cu_sy, hk] at h
      exact br_f hx (br_f hy (br_f (by decide) (br_f (by decide) (nm_e (br_f (by decide) (br_f (by decide) ⟨cu_two, nm_e h⟩))))))
theorem cu_ystep {post : Int32 → Prop} {J : Int32 → Int32 → Int32 → Int32 → Int32 → Prop} {A B C D : Nat → Int32} {x y n w k : Int32} (h : J (cu_sx x y w) (cu_sy x y w) (4 * n + cu_k x y w) (w / 2) (k + 1)) :
    ((x &&& w) = 0 → wY_numberOf_33 post J x y n w k 0 A B C D) ∧ (¬ (x &&& w) = 0 → wY_numberOf_33 post J x y n w k 1 A B C D) := by
  by_cases hx : (x &&& w) = 0
  · by_cases hy : (y &&& w) = 0
    · have hk : cu_k x y w = 0 := by rw [cu_k, if_pos hx, if_pos hy]
      rw [cu_sx, cu_sy, if_pos hk, if_pos hk, hk] at h
      exact br_t hx (br_t hy (br_t rfl (br_t rfl (nm_e (br_t rfl (br_f (by decide) ⟨cu_two, nm_e (nm_e h)⟩))))))
    · have hk : cu_k x y w = 1 := by rw [cu_k, if_pos hx, if_neg hy]
      rw [cu_sx, cu_sy, hk] at h
      exact br_t hx (br_f hy (br_t rfl (br_f (by decide) (nm_e (br_f (by decide) (br_f (by decide) ⟨cu_two, nm_e (nm_e h)⟩))))))
  · by_cases hy : (y &&& w) = 0
    · have hk : cu_k x y w = 3 := by rw [cu_k, if_neg hx, if_pos hy]
      rw [cu_sx, cu_sy, hk] at h
      exact br_f hx (br_t hy (br_f (by decide) (br_t rfl (nm_e (br_f (by decide) (br_t rfl (nm_e (nm_e ⟨cu_two, nm_e (nm_e h)⟩))))))))
    · have hk : cu_k x y w = 2 := by rw [cu_k, if_neg hx, if_neg hy]
      rw [cu_sx, cu_sy, hk] at h
      exact br_f hx (br_f hy (br_f (by decide) (br_f (by decide) (nm_e (br_f (by decide) (br_f (by decide) ⟨cu_two, nm_e (nm_e h)⟩))))))
/-- the four turns -/
def cu_cv : Nat → Int32 → Int32 → Int32 → Int32 → Int32
  | 0, _, _, n, _ => n
  | d + 1, x, y, n, w => cu_cv d (cu_sx x y w) (cu_sy x y w) (4 * n + cu_k x y w) (w / 2)
theorem cu_cvq : ∀ x, x < 16 → ∀ y, y < 16 → cu_cv 4 (nI x) (nI y) 0 8 = nI (cu_q (16 * x + y)) ∧ nI (cu_q (16 * x + y)) &&& 255 = nI (cu_q (16 * x + y)) := by decide +kernel
theorem cu_xnum {post : Int32 → Prop} {x y : Nat} (hx : x < 16) (hy : y < 16) (h : post (nI (cu_q (16 * x + y)))) : wpX_curveNumber post (nI x) (nI y) := by
  rw [← (cu_cvq x hx y hy).1] at h
  exact ⟨5, br_f (by decide) (cu_xstep (br_f (by decide) (cu_xstep (br_f (by decide) (cu_xstep (br_f (by decide) (cu_xstep (br_t (by decide) h))))))))⟩
theorem cu_ynum {post : Int32 → Prop} {A B C D : Nat → Int32} {x y : Nat} (hx : x < 16) (hy : y < 16) (h : post (nI (cu_q (16 * x + y)))) : wpY_numberOf post (A, B, C, D) (nI x) (nI y) := by
  rw [← (cu_cvq x hx y hy).2, ← (cu_cvq x hx y hy).1] at h
  exact ⟨5, br_f (by decide) (cu_ystep (br_f (by decide) (cu_ystep (br_f (by decide) (cu_ystep (br_f (by decide) (cu_ystep (br_t (by decide) h))))))))⟩
/-- the relation -/
def cu_H (S : Nat → Nat → Bool) (a : Nat → Int32) : Prop := ∀ s n, s < 4 → n < 256 → a (256 * s + n) = cu_b (S s n)
def cu_M (S : Nat → Nat → Bool) (a : Nat → Int32) : Prop := ∀ s c, s < 4 → c < 256 → a (256 * s + c) = cu_b (S s (cu_q c))
def cu_P (a : Nat → Int32) : Prop := ∀ n, n < 256 → a n = nI (cu_p n)
def cu_N (a : Nat → Int32) : Prop := ∀ c, c < 256 → a c = nI (cu_q c)
def i_Rel (_ : Nat) (u : SX) (v : SY) : Prop := ∃ S : Nat → Nat → Bool, cu_H S u.1 ∧ cu_P u.2 ∧ cu_N v.1 ∧ cu_P v.2.1 ∧ cu_M S v.2.2.1
theorem i_up {k : Nat} {u : SX} {v : SY} (h : i_Rel k u v) : i_Rel (k + 5) u v := h
/-- places filled for the first i cells -/
def cu_F (i : Nat) (a : Nat → Int32) : Prop := ∀ c, c < i → a (cu_q c) = nI c
theorem cu_Fs {i : Nat} {a : Nat → Int32} (hi : i < 256) (h : cu_F i a) : cu_F (i + 1) (upd a (cu_q i) (nI i)) := by
  refine lt_s (fun c hc => ?_) pk_us
  rw [pk_un]
  · exact h c hc
  · intro e
    have e2 := congrArg cu_p e
    rw [cu_pq c (by omega), cu_pq i hi] at e2
    omega
theorem cu_FP {a : Nat → Int32} (h : cu_F 256 a) : cu_P a := fun n hn => by
  have := h (cu_p n) (cu_plt n)
  rw [cu_qp n hn] at this
  exact this
theorem cu_xinit {post : SX → Prop} (h : ∀ a, cu_P a → post ((fun _ => 0), a)) : wpX_init post := by
  refine loop_0 (fun n i a => wX_init_24 post n (nI i) (fun _ => 0) a) (fun i a => cu_F (16 * i) a) 16 (fun _ => 0) (fun c hc => absurd hc (Nat.not_lt_zero c)) ?_ ?_
  · intro n a ha
    exact br_t (by decide) (h a (cu_FP ha))
  · intro n x a hx ha ih
    refine br_f (nI_ge (b := 16) hx (by decide)) ?_
    refine loop_0 (fun n j a => wX_init_32 post (wX_init_24 post _) (nI x) n (nI j) (fun _ => 0) a) (fun j a => cu_F (16 * x + j) a) 16 a ha ?_ ?_
    · intro m a ha
      exact br_t (by decide) (nm_r (nI_1 x) (ih a ha))
    · intro m y a hy ha ih2
      refine br_f (nI_ge (b := 16) hy (by decide)) (cu_xnum hx hy ⟨pk_in (cu_q (16 * x + y)) 256 (cu_qlt _), ?_⟩)
      refine nm_r (e' := upd a (cu_q (16 * x + y)) (nI (16 * x + y))) (by rw [cu_xy, pk_cl (cu_q (16 * x + y)) rfl (by have := cu_qlt (16 * x + y); omega)]) ?_
      exact nm_r (nI_1 y) (ih2 _ (cu_Fs (i := 16 * x + y) (by omega) ha))
theorem cu_yinit {post : SY → Prop} (h : ∀ a b, cu_N a → cu_P b → post (a, b, (fun _ => 0), (fun _ => 0))) : wpY_init post := by
  refine loop_0 (fun n i (s : (Nat → Int32) × (Nat → Int32)) => wY_init_42 post n (nI i) s.1 s.2 (fun _ => 0) (fun _ => 0)) (fun i s => (∀ c, c < i → s.1 c = nI (cu_q c)) ∧ cu_F i s.2) 256 ((fun _ => 0), (fun _ => 0)) ⟨fun c hc => absurd hc (Nat.not_lt_zero c), fun c hc => absurd hc (Nat.not_lt_zero c)⟩ ?_ ?_
  · rintro n ⟨a, b⟩ ⟨ha, hb⟩
    exact br_t (by decide) (h a b ha (cu_FP hb))
  · rintro n i ⟨a, b⟩ hi ⟨ha, hb⟩ ih
    have e1 : nI i / 16 = nI (i / 16) := pk_div (d := 16) (by omega) (by decide) (by decide)
    have e2 : nI i - nI i / 16 * 16 = nI (i % 16) := pk_rem (d := 16) (by omega) (by decide) (by decide)
    have e3 : 16 * (i / 16) + i % 16 = i := by omega
    have ec : (nI i).toNatClampNeg = i := nI_clamp (by omega)
    refine br_f (nI_ge (b := 256) hi (by decide)) ⟨by decide, by decide, ?_⟩
    rw [e1, ← e1, e2, e1]
    refine cu_ynum (x := i / 16) (y := i % 16) (by omega) (by omega) ⟨vp_in_nI hi (by decide), ?_⟩
    rw [e3]
    refine nm_r (e' := upd a i (nI (cu_q i))) (by rw [ec]) ⟨vp_in_nI hi (by decide), ?_⟩
    rw [ec, pk_us]
    refine ⟨vp_in_nI (cu_qlt i) (by decide), nm_r (e' := upd b (cu_q i) (nI i)) (by rw [nI_clamp (by have := cu_qlt i; omega)]) (nm_r (nI_1 i) ?_)⟩
    refine ih (upd a i (nI (cu_q i)), upd b (cu_q i) (nI i)) ⟨lt_s (fun c hc => ?_) pk_us, cu_Fs hi hb⟩
    show upd a i (nI (cu_q i)) c = _
    rw [pk_un (by omega)]
    exact ha c hc
theorem i_vc0 : wpX_init (fun u => wpY_init (fun v => i_Rel 0 u v)) :=
  cu_xinit fun _ hp => cu_yinit fun _ _ hn hq => ⟨fun _ _ => false, fun _ _ _ _ => rfl, hp, hn, hq, fun _ _ _ _ => rfl⟩
end
section
/-- the first three sets of checks: is it a set -/
theorem cu_set (x : Int32) : (x < 0) ∨ (¬ x < 0 ∧ (4 : Int32) ≤ x ∧ (3 : Int32) < x) ∨ ∃ s : Nat, s < 4 ∧ x = nI s := by
  rcases pk_ix x (n := 4) (by decide) with h | h | h
  · exact Or.inl h
  · refine Or.inr (Or.inl ⟨?_, h, ?_⟩)
    · intro z
      have h1 := Int32.lt_iff_toInt_lt.mp z
      have h2 := Int32.le_iff_toInt_le.mp h
      rw [nI_toInt (by decide)] at h2
      rw [Int32.toInt_zero] at h1
      omega
    · have h2 := Int32.le_iff_toInt_le.mp h
      rw [nI_toInt (by decide)] at h2
      rw [Int32.lt_iff_toInt_lt, show (3 : Int32).toInt = 3 from by decide]
      omega
  · exact Or.inr (Or.inr h)
/-- what isSet answers: both sides' -/
def cu_is (x : Int32) : Bool := decide (¬ x < 0 ∧ ¬ (4 : Int32) ≤ x)
theorem cu_isN {s : Nat} (h : s < 4) : cu_is (nI s) = true := decide_eq_true ⟨nI_pos (by omega), nI_ge (b := 4) h (by decide)⟩
theorem cu_isT {x : Int32} (h : cu_is x = true) : ∃ s : Nat, s < 4 ∧ x = nI s := by
  have h' := of_decide_eq_true h
  rcases cu_set x with z | z | z
  · exact absurd z h'.1
  · exact absurd z.2.1 h'.2
  · exact z
theorem cu_xis {post : Int32 → Prop} {x : Int32} (h : post (cu_b (cu_is x))) : wpX_isSet post x := by
  rcases cu_set x with z | ⟨z, z1, z2⟩ | ⟨s, hs, rfl⟩
  · have e : cu_is x = false := decide_eq_false (fun y => y.1 z)
    rw [e] at h
    exact br_t z h
  · have e : cu_is x = false := decide_eq_false (fun y => y.2 z1)
    rw [e] at h
    exact br_f z (br_t z1 h)
  · rw [cu_isN hs] at h
    exact br_f (nI_pos (by omega)) (br_f (nI_ge (b := 4) hs (by decide)) h)
theorem cu_yis {post : Int32 → Prop} {A B C D : Nat → Int32} {x : Int32} (h : post (cu_b (cu_is x))) : wpY_isSet post (A, B, C, D) x := by
  rcases cu_set x with z | ⟨z, z1, z2⟩ | ⟨s, hs, rfl⟩
  · have e : cu_is x = false := decide_eq_false (fun y => y.1 z)
    rw [e] at h
    exact br_t z h
  · have e : cu_is x = false := decide_eq_false (fun y => y.2 z1)
    rw [e] at h
    exact br_f z (br_t z2 h)
  · rw [cu_isN hs] at h
    exact br_f (nI_pos (by omega)) (br_f (nI_nlt (a := 3) (by omega) (by decide)) h)
/-- countRun -/
theorem cu_run {post : Int32 → Prop} {a b : Nat → Int32} {s f l : Nat} {T : Nat → Bool} (hs : s < 5) (hl : f + l ≤ 256) (hT : ∀ n, n < 256 → a (256 * s + n) = cu_b (T n)) (hp : post (nI (cu_n (fun i => T (f + i)) l))) : wpX_countRun post (a, b) (nI s) (nI f) (nI l) := by
  refine loop_0 (fun n i c => wX_countRun_6 post (nI s) (nI f) (nI l) a b n c (nI i)) (fun i c => c = nI (cu_n (fun i => T (f + i)) i)) l 0 rfl ?_ ?_
  · intro n c hc
    subst hc
    exact br_t (nI_le (Nat.le_refl l) (by omega)) hp
  · intro n i c hi hc ih
    subst hc
    have e := cu_ix3 s f i
    have v : a (nI s * 256 + nI f + nI i).toNatClampNeg = cu_b (T (f + i)) := cu_at _ e (by omega) (hT _ (by omega))
    refine br_f (nI_ge hi (by omega)) ⟨pk_in (256 * s + (f + i)) 1280 (by omega) e, ?_⟩
    cases h : T (f + i) with
    | false => exact br_t (v.trans (cu_b0 h)) (nm_r (nI_1 i) (ih _ (congrArg nI (cu_nf (f := fun i => T (f + i)) h).symm)))
    | true => exact br_f (fun z => cu_b1 h (v.symm.trans z)) (nm_r (nI_1 _) (nm_r (nI_1 i) (ih _ (congrArg nI (cu_nt (f := fun i => T (f + i)) h).symm))))
/-- cells: the count by cells is the count by curve numbers -/
theorem cu_ycells {post : Int32 → Prop} {A B C D : Nat → Int32} {s : Nat} {T : Nat → Bool} (hs : s < 4) (hT : ∀ c, c < 256 → C (256 * s + c) = cu_b (T (cu_q c))) (hp : post (nI (cu_n T 256))) : wpY_cells post (A, B, C, D) (nI s) := by
  rw [← cu_nq T] at hp
  unfold wpY_cells
  refine cu_yis ?_
  rw [cu_isN hs]
  refine br_f (by decide) ?_
  refine loop_0 (fun n i c => wY_cells_14 post (nI s) A B C D n c (nI i)) (fun i c => c = nI (cu_n (fun c => T (cu_q c)) i)) 256 0 rfl ?_ ?_
  · intro n c hc
    subst hc
    exact br_t (by decide) hp
  · intro n i c hi hc ih
    subst hc
    have e := cu_iy s i
    have v : C (256 * nI s + nI i).toNatClampNeg = cu_b (T (cu_q i)) := cu_at _ e (by omega) (hT _ (by omega))
    refine br_f (nI_ge (b := 256) hi (by decide)) ⟨pk_in (256 * s + i) 1024 (by omega) e, ?_⟩
    cases h : T (cu_q i) with
    | false => exact br_t (v.trans (cu_b0 h)) (nm_r (nI_1 i) (ih _ (congrArg nI (cu_nf (f := fun c => T (cu_q c)) h).symm)))
    | true => exact br_f (fun z => cu_b1 h (v.symm.trans z)) (nm_r (nI_1 _) (nm_r (nI_1 i) (ih _ (congrArg nI (cu_nt (f := fun c => T (cu_q c)) h).symm))))
/-- stretches -/
def cu_pv (T : Nat → Bool) : Nat → Bool
  | 0 => false
  | i + 1 => T i
def cu_st (T : Nat → Bool) (n : Nat) : Nat := cu_n (fun i => T i && !cu_pv T i) n
theorem cu_st0 {T : Nat → Bool} {i : Nat} (h : T i = false) : cu_st T (i + 1) = cu_st T i := cu_nf (f := fun i => T i && !cu_pv T i) (by show (T i && _) = false; rw [h]; rfl)
theorem cu_st1 {T : Nat → Bool} {i : Nat} (h : T i = true) (h2 : cu_pv T i = false) : cu_st T (i + 1) = cu_st T i + 1 := cu_nt (f := fun i => T i && !cu_pv T i) (by show (T i && !cu_pv T i) = true; rw [h, h2]; rfl)
theorem cu_st2 {T : Nat → Bool} {i : Nat} (h : T i = true) (h2 : cu_pv T i = true) : cu_st T (i + 1) = cu_st T i := cu_nf (f := fun i => T i && !cu_pv T i) (by show (T i && !cu_pv T i) = false; rw [h, h2]; rfl)
theorem cu_xst {post : Int32 → Prop} {a b : Nat → Int32} {s : Nat} {T : Nat → Bool} (hs : s < 5) (hT : ∀ n, n < 256 → a (256 * s + n) = cu_b (T n)) (hp : post (nI (cu_st T 256))) : wpX_countStretches post (a, b) (nI s) := by
  refine loop_0 (fun n i (c : Int32 × Int32) => wX_countStretches_7 post (nI s) a b n c.1 c.2 (nI i)) (fun i c => c = (nI (cu_st T i), cu_b (cu_pv T i))) 256 (0, 0) rfl ?_ ?_
  · intro n c hc
    subst hc
    exact br_t (by decide) hp
  · intro n i c hi hc ih
    subst hc
    have e := cu_ix s i
    have v : a (nI s * 256 + nI i).toNatClampNeg = cu_b (T i) := cu_at _ e (by omega) (hT _ (by omega))
    refine br_f (nI_ge (b := 256) hi (by decide)) ⟨pk_in (256 * s + i) 1280 (by omega) e, nm_r v ?_⟩
    cases h : T i with
    | false => exact br_t (cu_b0 rfl) (nm_r (nI_1 i) (ih (nI (cu_st T i), cu_b false) (by rw [cu_st0 h]; show _ = (_, cu_b (T i)); rw [h])))
    | true =>
      refine br_f (cu_b1 rfl) ?_
      cases h2 : cu_pv T i with
      | false => exact br_t (cu_b0 rfl) (nm_r (nI_1 _) (nm_r (nI_1 i) (ih (nI (cu_st T i + 1), cu_b true) (by rw [cu_st1 h h2]; show _ = (_, cu_b (T i)); rw [h]))))
      | true => exact br_f (cu_b1 rfl) (nm_r (nI_1 i) (ih (nI (cu_st T i), cu_b true) (by rw [cu_st2 h h2]; show _ = (_, cu_b (T i)); rw [h])))
theorem cu_yruns {post : Int32 → Prop} {A B C D : Nat → Int32} {T : Nat → Bool} (hP : cu_P B) (hT : ∀ c, c < 256 → D c = cu_b (T (cu_q c))) (hp : post (nI (cu_st T 256))) : wpY_runs post (A, B, C, D) := by
  have hD : ∀ i, i < 256 → vp_in (B (nI i).toNatClampNeg) 256 ∧ D (B (nI i).toNatClampNeg).toNatClampNeg = cu_b (T i) := by
    intro i hi
    have hq := cu_plt i
    rw [nI_clamp (by omega), hP i hi, nI_clamp (by omega), hT _ hq, cu_qp i hi]
    exact ⟨vp_in_nI hq (by decide), rfl⟩
  refine loop_0 (fun n i c => wY_runs_4 post A B C D n c (nI i)) (fun i c => c = nI (cu_st T i)) 256 0 rfl ?_ ?_
  · intro n c hc
    subst hc
    exact br_t (by decide) hp
  · intro n i c hi hc ih
    subst hc
    refine br_f (nI_ge (b := 256) hi (by decide)) ⟨vp_in_nI hi (by decide), (hD i hi).1, ?_⟩
    cases h : T i with
    | false => exact br_t ((hD i hi).2.trans (cu_b0 h)) (nm_r (nI_1 i) (ih _ (by rw [cu_st0 h])))
    | true =>
      refine br_f (fun z => cu_b1 h ((hD i hi).2.symm.trans z)) ?_
      cases i with
      | zero => exact br_t rfl (nm_r (nI_1 _) (nm_r (nI_1 0) (ih _ (by rw [cu_st1 h rfl]))))
      | succ j =>
        have hj := hD j (by omega)
        refine br_f (nI_ne0 (by omega) (by omega)) ?_
        rw [nI_pred]
        refine ⟨vp_in_nI (by omega) (by decide), hj.1, ?_⟩
        cases h2 : T j with
        | false => exact br_t (hj.2.trans (cu_b0 h2)) (nm_r (nI_1 _) (nm_r (nI_1 _) (ih _ (by rw [cu_st1 h h2]))))
        | true => exact br_f (fun z => cu_b1 h2 (hj.2.symm.trans z)) (nm_r (nI_1 _) (ih _ (by rw [cu_st2 h h2])))
/-- copySet -/
theorem cu_copy {post : SX → Prop} {a b : Nat → Int32} {s t : Nat} {T : Nat → Bool} (hs : s < 5) (ht : t < 5) (hst : s ≠ t) (hT : ∀ n, n < 256 → a (256 * s + n) = cu_b (T n))
    (hp : ∀ a', (∀ n, n < 256 → a' (256 * t + n) = cu_b (T n)) → (∀ j, (j < 256 * t ∨ 256 * t + 256 ≤ j) → a' j = a j) → post (a', b)) : wpX_copySet post (a, b) (nI s) (nI t) := by
  refine loop_0 (fun n i a' => wX_copySet_2 post (nI s) (nI t) n (nI i) a' b) (fun i a' => (∀ n, n < i → a' (256 * t + n) = cu_b (T n)) ∧ (∀ j, (j < 256 * t ∨ 256 * t + i ≤ j) → a' j = a j)) 256 a ⟨lt_0, fun _ _ => rfl⟩ ?_ ?_
  · rintro n a' ⟨h1, h2⟩
    exact br_t (by decide) (hp a' h1 h2)
  · rintro n i a' hi ⟨h1, h2⟩ ih
    have v : a' (nI s * 256 + nI i).toNatClampNeg = cu_b (T i) := cu_at _ (cu_ix s i) (by omega) ((h2 _ (by omega)).trans (hT i hi))
    refine br_f (nI_ge (b := 256) hi (by decide)) ⟨pk_in (256 * s + i) 1280 (by omega) (cu_ix s i), pk_in (256 * t + i) 1280 (by omega) (cu_ix t i), ?_⟩
    refine nm_r (e' := upd a' (256 * t + i) (cu_b (T i))) (by rw [v, cu_nar, pk_cl (256 * t + i) (cu_ix t i) (by omega)]) (nm_r (nI_1 i) (ih _ ⟨lt_s (fun m hm => ?_) pk_us, fun j hj => ?_⟩))
    · rw [pk_un (by omega)]; exact h1 m hm
    · rw [pk_un (by omega)]; exact h2 j (by omega)
/-- a set put anew -/
def cu_put (S : Nat → Nat → Bool) (s : Nat) (T : Nat → Bool) : Nat → Nat → Bool := fun s' n => if s' = s then T n else S s' n
theorem cu_keepX {post : Int32 → SX → Prop} {a b : Nat → Int32} {s : Nat} {S : Nat → Nat → Bool} {T : Nat → Bool} (hs : s < 4) (hH : cu_H S a) (hT : ∀ n, n < 256 → a (1024 + n) = cu_b (T n))
    (h1 : 40 < cu_st T 256 → post (-2) (a, b)) (h2 : cu_st T 256 ≤ 40 → ∀ a', cu_H (cu_put S s T) a' → post (nI (cu_n T 256)) (a', b)) : wpX_keepDraft post (a, b) (nI s) := by
  unfold wpX_keepDraft
  have hlt : cu_st T 256 ≤ 256 := cu_nle _ _
  refine cu_xst (s := 4) (by decide) hT (pk_le (cu_st T 256) 40 (fun z => ?_) (fun z => h1 z))
  refine cu_copy (s := 4) (t := s) (by decide) (by omega) (by omega) hT (fun a' g1 g2 => ?_)
  refine cu_run (s := s) (f := 0) (l := 256) (by omega) (by decide) g1 ?_
  have e : cu_n (fun i => T (0 + i)) 256 = cu_n T 256 := cu_ncongr (fun i _ => by rw [Nat.zero_add])
  rw [e]
  refine h2 z a' (fun s' n hs' hn => ?_)
  by_cases hh : s' = s
  · subst hh
    rw [g1 n hn, cu_put, if_pos rfl]
  · rw [g2 _ (by omega), hH s' n hs' hn, cu_put, if_neg hh]
theorem cu_keepY {post : Int32 → SY → Prop} {A B C D : Nat → Int32} {s : Nat} {S : Nat → Nat → Bool} {T : Nat → Bool} (hs : s < 4) (hP : cu_P B) (hM : cu_M S C) (hT : ∀ c, c < 256 → D c = cu_b (T (cu_q c)))
    (h1 : 40 < cu_st T 256 → post (-2) (A, B, C, D)) (h2 : cu_st T 256 ≤ 40 → ∀ C', cu_M (cu_put S s T) C' → post (nI (cu_n T 256)) (A, B, C', D)) : wpY_keep post (A, B, C, D) (nI s) := by
  unfold wpY_keep
  have hlt : cu_st T 256 ≤ 256 := cu_nle _ _
  refine cu_yruns hP hT (pk_le (cu_st T 256) 40 (fun z => ?_) (fun z => h1 z))
  refine loop_0 (fun n i C' => wY_keep_14 post (nI s) n (nI i) A B C' D) (fun i C' => (∀ n, n < i → C' (256 * s + n) = cu_b (T (cu_q n))) ∧ (∀ j, (j < 256 * s ∨ 256 * s + i ≤ j) → C' j = C j)) 256 C ⟨lt_0, fun _ _ => rfl⟩ ?_ ?_
  · rintro n C' ⟨g1, g2⟩
    refine br_t (by decide) (cu_ycells hs g1 (h2 z C' (fun s' n hs' hn => ?_)))
    by_cases hh : s' = s
    · subst hh
      rw [g1 n hn, cu_put, if_pos rfl]
    · rw [g2 _ (by omega), hM s' n hs' hn, cu_put, if_neg hh]
  · rintro n i C' hi ⟨g1, g2⟩ ih
    have v : D (nI i).toNatClampNeg = cu_b (T (cu_q i)) := by rw [nI_clamp (by omega)]; exact hT i hi
    refine br_f (nI_ge (b := 256) hi (by decide)) ⟨vp_in_nI hi (by decide), pk_in (256 * s + i) 1024 (by omega) (cu_iy s i), ?_⟩
    refine nm_r (e' := upd C' (256 * s + i) (cu_b (T (cu_q i)))) (by rw [v, cu_nar, pk_cl (256 * s + i) (cu_iy s i) (by omega)]) (nm_r (nI_1 i) (ih _ ⟨lt_s (fun m hm => ?_) pk_us, fun j hj => ?_⟩))
    · rw [pk_un (by omega)]; exact g1 m hm
    · rw [pk_un (by omega)]; exact g2 j (by omega)
end
section
theorem cu_big {x : Int32} {n : Nat} (hn : n + 1 < 2 ^ 31) (h : nI (n + 1) ≤ x) : ¬ x < 0 ∧ nI n < x := by
  have h2 := Int32.le_iff_toInt_le.mp h
  rw [nI_toInt hn] at h2
  constructor
  · intro z
    have h1 := Int32.lt_iff_toInt_lt.mp z
    rw [Int32.toInt_zero] at h1
    omega
  · rw [Int32.lt_iff_toInt_lt, nI_toInt (by omega)]
    omega
/-- isCell -/
def cu_ic (x y : Int32) : Bool := decide (¬ x < 0 ∧ ¬ (16 : Int32) ≤ x ∧ ¬ y < 0 ∧ ¬ (16 : Int32) ≤ y)
theorem cu_icT {x y : Int32} (h : cu_ic x y = true) : ∃ i j : Nat, i < 16 ∧ j < 16 ∧ x = nI i ∧ y = nI j := by
  have h' := of_decide_eq_true h
  rcases pk_ix x (n := 16) (by decide) with z | z | ⟨i, hi, ei⟩
  · exact absurd z h'.1
  · exact absurd z h'.2.1
  · rcases pk_ix y (n := 16) (by decide) with z | z | ⟨j, hj, ej⟩
    · exact absurd z h'.2.2.1
    · exact absurd z h'.2.2.2
    · exact ⟨i, j, hi, hj, ei, ej⟩
theorem cu_xic {post : Int32 → Prop} {x y : Int32} (h : post (cu_b (cu_ic x y))) : wpX_isCell post x y := by
  by_cases h1 : x < 0
  · have e : cu_ic x y = false := decide_eq_false (fun z => z.1 h1)
    rw [e] at h
    exact br_t h1 h
  by_cases h2 : (16 : Int32) ≤ x
  · have e : cu_ic x y = false := decide_eq_false (fun z => z.2.1 h2)
    rw [e] at h
    exact br_f h1 (br_t h2 h)
  by_cases h3 : y < 0
  · have e : cu_ic x y = false := decide_eq_false (fun z => z.2.2.1 h3)
    rw [e] at h
    exact br_f h1 (br_f h2 (br_t h3 h))
  by_cases h4 : (16 : Int32) ≤ y
  · have e : cu_ic x y = false := decide_eq_false (fun z => z.2.2.2 h4)
    rw [e] at h
    exact br_f h1 (br_f h2 (br_f h3 (br_t h4 h)))
  have e : cu_ic x y = true := decide_eq_true ⟨h1, h2, h3, h4⟩
  rw [e] at h
  exact br_f h1 (br_f h2 (br_f h3 (br_f h4 h)))
theorem cu_15 {x : Int32} (h : ¬ (16 : Int32) ≤ x) : ¬ (15 : Int32) < x := by
  intro z
  apply h
  have h1 := Int32.lt_iff_toInt_lt.mp z
  rw [Int32.le_iff_toInt_le]
  rw [show (15 : Int32).toInt = 15 from by decide] at h1
  rw [show (16 : Int32).toInt = 16 from by decide]
  omega
theorem cu_yic {post : Int32 → Prop} {A B C D : Nat → Int32} {x y : Int32} (h : post (cu_b (cu_ic x y))) : wpY_isCell post (A, B, C, D) x y := by
  by_cases h1 : x < 0
  · have e : cu_ic x y = false := decide_eq_false (fun z => z.1 h1)
    rw [e] at h
    exact br_t h1 h
  by_cases h2 : (16 : Int32) ≤ x
  · have e : cu_ic x y = false := decide_eq_false (fun z => z.2.1 h2)
    rw [e] at h
    exact br_f h1 (br_t (cu_big (n := 15) (by decide) h2).2 h)
  by_cases h3 : y < 0
  · have e : cu_ic x y = false := decide_eq_false (fun z => z.2.2.1 h3)
    rw [e] at h
    exact br_f h1 (br_f (cu_15 h2) (br_t h3 h))
  by_cases h4 : (16 : Int32) ≤ y
  · have e : cu_ic x y = false := decide_eq_false (fun z => z.2.2.2 h4)
    rw [e] at h
    exact br_f h1 (br_f (cu_15 h2) (br_f h3 (br_t (cu_big (n := 15) (by decide) h4).2 h)))
  have e : cu_ic x y = true := decide_eq_true ⟨h1, h2, h3, h4⟩
  rw [e] at h
  exact br_f h1 (br_f (cu_15 h2) (br_f h3 (br_f (cu_15 h4) h)))
theorem i_vc_number {k : Nat} {u : SX} {v : SY} (I : i_Rel k u v) (hk : k + 5 ≤ 2560) (v1 : Int32) (v2 : Int32) : wpX_number (fun r => wpY_number (fun r' => r' = r ∧ i_Rel (k + 5) u v) v v1 v2) u v1 v2 := by
  have J := i_up I
  obtain ⟨a, b⟩ := u
  obtain ⟨A, B, C, D⟩ := v
  obtain ⟨S, hH, hp, hN, hP, hM⟩ := I
  unfold wpX_number wpY_number
  refine cu_xic ?_
  cases h : cu_ic v1 v2 with
  | false => exact br_t rfl (cu_yic (by rw [h]; exact br_t rfl ⟨rfl, J⟩))
  | true =>
    obtain ⟨i, j, hi, hj, rfl, rfl⟩ := cu_icT h
    refine br_f (by decide) (cu_xnum hi hj (cu_yic ?_))
    rw [h]
    refine br_f (by decide) ⟨pk_in (16 * i + j) 256 (by omega) (cu_xy i j), cu_at (16 * i + j) (cu_xy i j) (by omega) (hN _ (by omega)), J⟩
theorem i_vc_has {k : Nat} {u : SX} {v : SY} (I : i_Rel k u v) (hk : k + 5 ≤ 2560) (v1 : Int32) (v2 : Int32) (v3 : Int32) : wpX_has (fun r => wpY_has (fun r' => r' = r ∧ i_Rel (k + 5) u v) v v1 v2 v3) u v1 v2 v3 := by
  have J := i_up I
  obtain ⟨a, b⟩ := u
  obtain ⟨A, B, C, D⟩ := v
  obtain ⟨S, hH, hp, hN, hP, hM⟩ := I
  unfold wpX_has wpY_has
  refine cu_xis ?_
  cases h : cu_is v1 with
  | false => exact br_t rfl (cu_yis (by rw [h]; exact br_t rfl ⟨rfl, J⟩))
  | true =>
    obtain ⟨s, hs, rfl⟩ := cu_isT h
    refine br_f (by decide) (cu_xic ?_)
    cases h2 : cu_ic v2 v3 with
    | false => exact br_t rfl (cu_yis (by rw [h]; exact br_f (by decide) (cu_yic (by rw [h2]; exact br_t rfl ⟨rfl, J⟩))))
    | true =>
      obtain ⟨i, j, hi, hj, rfl, rfl⟩ := cu_icT h2
      refine br_f (by decide) (cu_xnum hi hj ?_)
      have hq := cu_qlt (16 * i + j)
      have e := cu_ix s (cu_q (16 * i + j))
      have e2 := cu_xy3 s i j
      have vx : a (nI s * 256 + nI (cu_q (16 * i + j))).toNatClampNeg = cu_b (S s (cu_q (16 * i + j))) := cu_at _ e (by omega) (hH _ _ hs hq)
      have vy : C (256 * nI s + 16 * nI i + nI j).toNatClampNeg = cu_b (S s (cu_q (16 * i + j))) := cu_at _ e2 (by omega) (hM _ _ hs (by omega))
      refine ⟨pk_in _ 1280 (by omega) e, ?_⟩
      cases hv : S s (cu_q (16 * i + j)) with
      | false =>
        refine br_t (vx.trans (cu_b0 hv)) (cu_yis ?_)
        rw [h]
        refine br_f (by decide) (cu_yic ?_)
        rw [h2]
        exact br_f (by decide) ⟨pk_in _ 1024 (by omega) e2, br_t (vy.trans (cu_b0 hv)) ⟨rfl, J⟩⟩
      | true =>
        refine br_f (fun z => cu_b1 hv (vx.symm.trans z)) (cu_yis ?_)
        rw [h]
        refine br_f (by decide) (cu_yic ?_)
        rw [h2]
        exact br_f (by decide) ⟨pk_in _ 1024 (by omega) e2, br_f (fun z => cu_b1 hv (vy.symm.trans z)) ⟨rfl, J⟩⟩
theorem i_vc_cells {k : Nat} {u : SX} {v : SY} (I : i_Rel k u v) (hk : k + 5 ≤ 2560) (v1 : Int32) : wpX_cells (fun r => wpY_cells (fun r' => r' = r ∧ i_Rel (k + 5) u v) v v1) u v1 := by
  have J := i_up I
  obtain ⟨a, b⟩ := u
  obtain ⟨A, B, C, D⟩ := v
  obtain ⟨S, hH, hp, hN, hP, hM⟩ := I
  unfold wpX_cells
  refine cu_xis ?_
  cases h : cu_is v1 with
  | false => unfold wpY_cells; exact br_t rfl (cu_yis (by rw [h]; exact br_t rfl ⟨rfl, J⟩))
  | true =>
    obtain ⟨s, hs, rfl⟩ := cu_isT h
    refine br_f (by decide) (cu_run (s := s) (f := 0) (l := 256) (by omega) (by decide) (fun n hn => hH s n hs hn) ?_)
    refine cu_ycells hs (fun c hc => hM s c hs hc) ⟨congrArg nI (cu_ncongr (fun i _ => by rw [Nat.zero_add])), J⟩
theorem i_vc_place {k : Nat} {u : SX} {v : SY} (I : i_Rel k u v) (hk : k + 5 ≤ 2560) (v1 : Int32) : wpX_place (fun r => wpY_place (fun r' => r' = r ∧ i_Rel (k + 5) u v) v v1) u v1 := by
  have J := i_up I
  obtain ⟨a, b⟩ := u
  obtain ⟨A, B, C, D⟩ := v
  obtain ⟨S, hH, hp, hN, hP, hM⟩ := I
  rcases pk_ix v1 (n := 256) (by decide) with z | z | ⟨i, hi, rfl⟩
  · exact br_t z (br_t z ⟨rfl, J⟩)
  · have h := cu_big (n := 255) (by decide) z
    exact br_f h.1 (br_t z (br_f h.1 (br_t h.2 ⟨rfl, J⟩)))
  · have h0 : ¬ nI i < 0 := nI_pos (by omega)
    have h1 : ¬ (256 : Int32) ≤ nI i := nI_ge (b := 256) hi (by decide)
    have h2 : ¬ (255 : Int32) < nI i := nI_nlt (a := 255) (by omega) (by decide)
    have hc : (nI i).toNatClampNeg = i := nI_clamp (by omega)
    refine br_f h0 (br_f h1 ⟨vp_in_nI hi (by decide), br_f h0 (br_f h2 ⟨vp_in_nI hi (by decide), ?_, J⟩)⟩)
    rw [hc]
    exact (hP i hi).trans (hp i hi).symm
theorem i_vc_stretches {k : Nat} {u : SX} {v : SY} (I : i_Rel k u v) (hk : k + 5 ≤ 2560) (v1 : Int32) : wpX_stretches (fun r => wpY_stretches (fun r' v' => r' = r ∧ i_Rel (k + 5) u v') v v1) u v1 := by
  have J := i_up I
  obtain ⟨a, b⟩ := u
  obtain ⟨A, B, C, D⟩ := v
  obtain ⟨S, hH, hp, hN, hP, hM⟩ := I
  unfold wpX_stretches wpY_stretches
  refine cu_xis ?_
  cases h : cu_is v1 with
  | false => exact br_t rfl (cu_yis (by rw [h]; exact br_t rfl ⟨rfl, J⟩))
  | true =>
    obtain ⟨s, hs, rfl⟩ := cu_isT h
    refine br_f (by decide) (cu_xst (by omega) (fun n hn => hH s n hs hn) (cu_yis ?_))
    rw [h]
    refine br_f (by decide) ?_
    refine loop_0 (fun n i D' => wY_stretches_12 _ (nI s) n (nI i) A B C D') (fun i D' => ∀ c, c < i → D' c = cu_b (S s (cu_q c))) 256 D lt_0 ?_ ?_
    · intro n D' g
      exact br_t (by decide) (cu_yruns hP g ⟨rfl, ⟨S, hH, hp, hN, hP, hM⟩⟩)
    · intro n i D' hi g ih
      have v : C (256 * nI s + nI i).toNatClampNeg = cu_b (S s (cu_q i)) := cu_at _ (cu_iy s i) (by omega) (hM s i hs hi)
      refine br_f (nI_ge (b := 256) hi (by decide)) ⟨pk_in _ 1024 (by omega) (cu_iy s i), vp_in_nI hi (by decide), ?_⟩
      refine nm_r (e' := upd D' i (cu_b (S s (cu_q i)))) (by rw [v, cu_nar, nI_clamp (by omega)]) (nm_r (nI_1 i) (ih _ (lt_s (fun c hc => ?_) pk_us)))
      rw [pk_un (by omega)]; exact g c hc
/-- the k-th of those that there are: what nth and piece walk -/
def cu_kth (A : Nat → Option Int32) (k : Int32) : Nat → Nat → Int32 → Int32
  | 0, _, _ => -3
  | d + 1, i, c => match A i with
    | none => cu_kth A k d (i + 1) c
    | some r => if c = k then r else cu_kth A k d (i + 1) (c + 1)
theorem cu_kn {A : Nat → Option Int32} {k : Int32} {d i : Nat} {c : Int32} (h : A i = none) : cu_kth A k (d + 1) i c = cu_kth A k d (i + 1) c := by rw [cu_kth, h]
theorem cu_ks {A : Nat → Option Int32} {k : Int32} {d i : Nat} {c r : Int32} (h : A i = some r) (e : c = k) : cu_kth A k (d + 1) i c = r := by rw [cu_kth, h]; exact if_pos e
theorem cu_kd {A : Nat → Option Int32} {k : Int32} {d i : Nat} {c r : Int32} (h : A i = some r) (e : ¬ c = k) : cu_kth A k (d + 1) i c = cu_kth A k d (i + 1) (c + 1) := by rw [cu_kth, h]; exact if_neg e
def cu_nA (T : Nat → Bool) (i : Nat) : Option Int32 := if T i then some (nI (cu_p i)) else none
theorem cu_xnth {post : Int32 → Prop} {a b : Nat → Int32} {s : Nat} {T : Nat → Bool} {k : Int32} (hs : s < 4) (hp : cu_P b) (hT : ∀ n, n < 256 → a (256 * s + n) = cu_b (T n)) :
    ∀ d i c, i + d = 256 → post (cu_kth (cu_nA T) k d i c) → wX_nth_14 post (nI s) k a b (d + 1) c (nI i) := by
  intro d
  induction d with
  | zero =>
    intro i c hi h
    have : i = 256 := by omega
    subst this
    exact br_t (by decide) h
  | succ d ih =>
    intro i c hi h
    have v : a (nI s * 256 + nI i).toNatClampNeg = cu_b (T i) := cu_at _ (cu_ix s i) (by omega) (hT _ (by omega))
    refine br_f (nI_ge (b := 256) (by omega) (by decide)) ⟨pk_in _ 1280 (by omega) (cu_ix s i), ?_⟩
    cases e : T i with
    | false =>
      rw [cu_kn (by rw [cu_nA, e]; rfl)] at h
      exact br_t (v.trans (cu_b0 e)) (nm_r (nI_1 i) (ih (i + 1) c (by omega) h))
    | true =>
      have eA : cu_nA T i = some (nI (cu_p i)) := by rw [cu_nA, e]; rfl
      refine br_f (fun z => cu_b1 e (v.symm.trans z)) ?_
      by_cases ec : c = k
      · rw [cu_ks eA ec] at h
        refine br_t ec ⟨vp_in_nI (by omega) (by decide), ?_⟩
        rw [nI_clamp (by omega), hp i (by omega)]
        exact h
      · rw [cu_kd eA ec] at h
        exact br_f ec (nm_e (nm_r (nI_1 i) (ih (i + 1) (c + 1) (by omega) h)))
theorem cu_pl {B : Nat → Int32} (hP : cu_P B) {i : Nat} (hi : i < 256) : B (nI i).toNatClampNeg = nI (cu_p i) := by rw [nI_clamp (by omega)]; exact hP i hi
theorem cu_mk {B C : Nat → Int32} {s : Nat} {T : Nat → Bool} (hs : s < 4) (hP : cu_P B) (hT : ∀ c, c < 256 → C (256 * s + c) = cu_b (T (cu_q c))) {i : Nat} (hi : i < 256) :
    vp_in (256 * nI s + B (nI i).toNatClampNeg) 1024 ∧ C (256 * nI s + B (nI i).toNatClampNeg).toNatClampNeg = cu_b (T i) := by
  have hq := cu_plt i
  rw [cu_pl hP hi, cu_iy]
  refine ⟨vp_in_nI (by omega) (by decide), ?_⟩
  rw [nI_clamp (by omega), hT _ hq, cu_qp i hi]
theorem cu_ynth {post : Int32 → Prop} {A B C D : Nat → Int32} {s : Nat} {T : Nat → Bool} {k : Int32} (hs : s < 4) (hP : cu_P B) (hT : ∀ c, c < 256 → C (256 * s + c) = cu_b (T (cu_q c))) :
    ∀ d i c, i + d = 256 → post (cu_kth (cu_nA T) k d i c) → wY_nth_15 post (nI s) k A B C D (d + 1) c (nI i) := by
  intro d
  induction d with
  | zero =>
    intro i c hi h
    have : i = 256 := by omega
    subst this
    exact br_t (by decide) h
  | succ d ih =>
    intro i c hi h
    have v := cu_mk hs hP hT (i := i) (by omega)
    refine br_f (nI_ge (b := 256) (by omega) (by decide)) ⟨vp_in_nI (by omega) (by decide), v.1, ?_⟩
    cases e : T i with
    | false =>
      rw [cu_kn (by rw [cu_nA, e]; rfl)] at h
      exact br_t (v.2.trans (cu_b0 e)) (nm_r (nI_1 i) (ih (i + 1) c (by omega) h))
    | true =>
      have eA : cu_nA T i = some (nI (cu_p i)) := by rw [cu_nA, e]; rfl
      refine br_f (fun z => cu_b1 e (v.2.symm.trans z)) ?_
      by_cases ec : c = k
      · rw [cu_ks eA ec] at h
        refine br_t ec ⟨vp_in_nI (by omega) (by decide), ?_⟩
        rw [cu_pl hP (by omega)]
        exact h
      · rw [cu_kd eA ec] at h
        exact br_f ec (nm_e (nm_r (nI_1 i) (ih (i + 1) (c + 1) (by omega) h)))
theorem i_vc_nth {k : Nat} {u : SX} {v : SY} (I : i_Rel k u v) (hk : k + 5 ≤ 2560) (v1 : Int32) (v2 : Int32) : wpX_nth (fun r => wpY_nth (fun r' => r' = r ∧ i_Rel (k + 5) u v) v v1 v2) u v1 v2 := by
  have J := i_up I
  obtain ⟨a, b⟩ := u
  obtain ⟨A, B, C, D⟩ := v
  obtain ⟨S, hH, hp, hN, hP, hM⟩ := I
  unfold wpX_nth wpY_nth
  refine cu_xis ?_
  cases h : cu_is v1 with
  | false => exact br_t rfl (cu_yis (by rw [h]; exact br_t rfl ⟨rfl, J⟩))
  | true =>
    obtain ⟨s, hs, rfl⟩ := cu_isT h
    refine br_f (by decide) ⟨257, cu_xnth hs hp (fun n hn => hH s n hs hn) 256 0 0 rfl (cu_yis ?_)⟩
    rw [h]
    exact br_f (by decide) ⟨257, cu_ynth hs hP (fun c hc => hM s c hs hc) 256 0 0 rfl ⟨rfl, J⟩⟩
end
section
theorem cu_shl : ∀ l, l < 5 → (1 : Int32) <<< (nI l &&& 31) = nI (2 ^ l) ∧ (1 : Int32) <<< ((nI l &&& 7) &&& 31) = nI (2 ^ l) := by decide +kernel
theorem cu_shr : ∀ l, l < 5 → (16 : Int32) >>> (nI l &&& 31) = nI (cu_w l) ∧ (16 : Int32) >>> ((nI l &&& 7) &&& 31) = nI (cu_w l) ∧ (256 : Int32) >>> ((2 * nI l) &&& 31) = nI (cu_L l) ∧ nI (cu_w l) * nI (cu_w l) = nI (cu_L l) := by decide +kernel
theorem cu_neg : ∀ l, l < 5 → ∀ n, n < 256 → nI n &&& (-(nI (cu_L l))) = nI (n / cu_L l * cu_L l) := by decide +kernel
theorem cu_gD : ∀ l, l < 5 → ∀ a, a < 2 ^ l → a * cu_w l < 16 ∧ (a + 1) * cu_w l ≤ 16 := by decide +kernel
theorem cu_p2 : ∀ l, l < 5 → 2 ^ l ≤ 16 ∧ cu_w l ≤ 16 ∧ cu_L l ≤ 256 := by decide +kernel
theorem cu_dv {x w a : Nat} (hw : 0 < w) : x / w = a ↔ a * w ≤ x ∧ x < (a + 1) * w := by
  constructor
  · rintro rfl
    exact ⟨Nat.div_mul_le_self x w, (Nat.div_lt_iff_lt_mul hw).mp (Nat.lt_succ_self _)⟩
  · rintro ⟨h1, h2⟩
    exact Nat.div_eq_of_lt_le h1 h2
theorem cu_bz (v : Int32) : lw_bz v = cu_b (!decide (v = 0)) := by
  unfold lw_bz
  by_cases h : v = 0
  · rw [if_pos h, decide_eq_true h]; rfl
  · rw [if_neg h, decide_eq_false h]; rfl
/-- inSquare -/
theorem cu_yin {post : Int32 → Prop} {A B C D : Nat → Int32} {c l a b : Nat} (hc : c < 256) (hl : l < 5) (ha : a < 2 ^ l) (hb : b < 2 ^ l) (h : post (cu_b (decide (cu_q c / cu_L l = cu_f l a b)))) : wpY_inSquare post (A, B, C, D) (nI c) (nI l) (nI a) (nI b) := by
  have hg := cu_geo hl hc ha hb
  rw [cu_dv (cu_wpos l), cu_dv (cu_wpos l)] at hg
  have e1 : nI c / 16 = nI (c / 16) := pk_div (d := 16) (by omega) (by decide) (by decide)
  have e2 : nI c - nI c / 16 * 16 = nI (c % 16) := pk_rem (d := 16) (by omega) (by decide) (by decide)
  have e5 : (nI a + 1) * nI (cu_w l) = nI ((a + 1) * cu_w l) := by rw [nI_1, pk_mul]
  have e6 : (nI b + 1) * nI (cu_w l) = nI ((b + 1) * cu_w l) := by rw [nI_1, pk_mul]
  have d1 := cu_gD l hl a ha
  have d2 := cu_gD l hl b hb
  have no : ¬ (a * cu_w l ≤ c / 16 ∧ c / 16 < (a + 1) * cu_w l ∧ b * cu_w l ≤ c % 16 ∧ c % 16 < (b + 1) * cu_w l) → post 0 := by
    intro z
    have e : decide (cu_q c / cu_L l = cu_f l a b) = false := decide_eq_false (fun y => z (by
      have := hg.mpr y
      exact ⟨this.1.1, this.1.2, this.2.1, this.2.2⟩))
    rw [e] at h
    exact h
  refine nm_r (cu_shr l hl).1 ⟨by decide, pk_lt (c / 16) (a * cu_w l) (fun z => no (fun y => by omega)) (fun z1 => ⟨by decide, pk_le ((a + 1) * cu_w l) (c / 16) (fun z => no (fun y => by omega)) (fun z2 => ⟨by decide, ?_⟩) e5 e1⟩) e1 (pk_mul _ _)⟩
  refine pk_lt (c % 16) (b * cu_w l) (fun z => no (fun y => by omega)) (fun z3 => ⟨by decide, pk_le ((b + 1) * cu_w l) (c % 16) (fun z => no (fun y => by omega)) (fun z4 => ?_) e6 e2⟩) e2 (pk_mul _ _)
  have e : decide (cu_q c / cu_L l = cu_f l a b) = true := decide_eq_true (hg.mp ⟨⟨z1, z2⟩, z3, z4⟩)
  rw [e] at h
  exact h
/-- a square's parts -/
theorem cu_lev {post : Int32 → Prop} {j : Nat} (hj : j < 2 ^ 31) (h : post (nI (j / 1024))) : wpX_levelOf post (nI j) := by
  have e : nI j / 1024 = nI (j / 1024) := pk_div (d := 1024) hj (by decide) (by decide)
  refine ⟨by decide, ?_⟩
  rw [e]; exact h
theorem cu_e32 {j : Nat} (hj : j < 2 ^ 31) : nI j / 32 - nI j / 32 / 32 * 32 = nI (j / 32 % 32) := by
  have e : nI j / 32 = nI (j / 32) := pk_div (d := 32) hj (by decide) (by decide)
  rw [e]
  exact pk_rem (d := 32) (by omega) (by decide) (by decide)
theorem cu_r32 {j : Nat} (hj : j < 2 ^ 31) : nI j - nI j / 32 * 32 = nI (j % 32) := pk_rem (d := 32) hj (by decide) (by decide)
theorem cu_col {post : Int32 → Prop} {j : Nat} (hj : j < 2 ^ 31) (h : post (nI (j / 32 % 32))) : wpX_columnOf post (nI j) := by
  refine ⟨by decide, by decide, ?_⟩
  rw [cu_e32 hj]; exact h
theorem cu_row {post : Int32 → Prop} {j : Nat} (hj : j < 2 ^ 31) (h : post (nI (j % 32))) : wpX_rowOf post (nI j) := by
  refine ⟨by decide, ?_⟩
  rw [cu_r32 hj]; exact h
/-- isSquare -/
def cu_sq (j : Nat) : Bool := decide (j / 1024 < 5 ∧ j / 32 % 32 < 2 ^ (j / 1024) ∧ j % 32 < 2 ^ (j / 1024))
theorem cu_xsq {post : Int32 → Prop} {j : Nat} (hj : j < 2 ^ 31) (h : post (cu_b (cu_sq j))) : wpX_isSquare post (nI j) := by
  have no : ¬ (j / 1024 < 5 ∧ j / 32 % 32 < 2 ^ (j / 1024) ∧ j % 32 < 2 ^ (j / 1024)) → post 0 := by
    intro z
    have e : cu_sq j = false := decide_eq_false z
    rw [e] at h
    exact h
  refine br_f (nI_pos hj) (cu_lev hj (pk_le (j / 1024) 4 (fun hl => cu_lev hj ?_) (fun z => no (fun y => by omega))))
  have hp := cu_p2 (j / 1024) (by omega)
  refine nm_r (cu_shl (j / 1024) (by omega)).1 (cu_col hj (pk_le (2 ^ (j / 1024)) (j / 32 % 32) (fun z => no (fun y => by omega)) (fun z1 => cu_row hj (pk_le (2 ^ (j / 1024)) (j % 32) (fun z => no (fun y => by omega)) (fun z2 => ?_)))))
  have e : cu_sq j = true := decide_eq_true ⟨by omega, z1, z2⟩
  rw [e] at h
  exact h
theorem cu_first {post : Int32 → Prop} {j : Nat} (hj : j < 2 ^ 31) (hl : j / 1024 < 5) (ha : j / 32 % 32 < 2 ^ (j / 1024)) (hb : j % 32 < 2 ^ (j / 1024))
    (h : post (nI (cu_f (j / 1024) (j / 32 % 32) (j % 32) * cu_L (j / 1024)))) : wpX_firstNumber post (nI j) := by
  have h' := h
  rw [cu_f, ← cu_neg _ hl _ (cu_qlt _), ← (cu_shr _ hl).2.2.2] at h'
  exact cu_lev hj (nm_r (cu_shr _ hl).1 (cu_col hj (nm_r (pk_mul _ _) (cu_row hj (nm_r (pk_mul _ _) (cu_xnum (cu_gD _ hl _ ha).1 (cu_gD _ hl _ hb).1 h'))))))
theorem cu_fill {post : SX → Prop} {a b : Nat → Int32} {j : Nat} {x : Bool} {T : Nat → Bool} (hj : j < 2 ^ 31) (hl : j / 1024 < 5) (ha : j / 32 % 32 < 2 ^ (j / 1024)) (hb : j % 32 < 2 ^ (j / 1024))
    (hT : ∀ n, n < 256 → a (1024 + n) = cu_b (T n))
    (hp : ∀ a', (∀ n, n < 256 → a' (1024 + n) = cu_b (if n / cu_L (j / 1024) = cu_f (j / 1024) (j / 32 % 32) (j % 32) then x else T n)) → (∀ i, i < 1024 → a' i = a i) → post (a', b)) : wpX_fillDraft post (a, b) (nI j) (cu_b x) := by
  unfold wpX_fillDraft
  have hf := cu_flt _ hl _ ha _ hb
  have hp2 := cu_p2 _ hl
  refine cu_first hj hl ha hb (cu_lev hj ?_)
  unfold wpX_squareLength
  rw [(cu_shr _ hl).2.2.1]
  generalize cu_f (j / 1024) (j / 32 % 32) (j % 32) = f at *
  have hLp := cu_Lpos (j / 1024)
  generalize cu_L (j / 1024) = L at *
  have hfL : (f + 1) * L = f * L + L := Nat.succ_mul f L
  refine loop_0 (fun n i a' => wX_fillDraft_21 post (cu_b x) (nI (f * L)) (nI L) n (nI i) a' b) (fun i a' => (∀ n, n < 256 → a' (1024 + n) = cu_b (if f * L ≤ n ∧ n < f * L + i then x else T n)) ∧ (∀ i, i < 1024 → a' i = a i)) L a ⟨fun n hn => ?_, fun _ _ => rfl⟩ ?_ ?_
  · rw [if_neg (by omega)]; exact hT n hn
  · rintro n a' ⟨h1, h2⟩
    refine br_t (nI_le (Nat.le_refl _) (by omega)) (hp a' (fun n hn => ?_) h2)
    rw [h1 n hn]
    by_cases z : f * L ≤ n ∧ n < f * L + L
    · rw [if_pos z, if_pos ((cu_dv hLp).mpr (by omega))]
    · rw [if_neg z, if_neg (fun y => z (by have := (cu_dv hLp).mp y; omega))]
  · rintro n i a' hi ⟨h1, h2⟩ ih
    refine br_f (nI_ge hi (by omega)) ⟨pk_in (1024 + (f * L + i)) 1280 (by omega) (cu_id _ _), ?_⟩
    refine nm_r (e' := upd a' (1024 + (f * L + i)) (cu_b x)) (by rw [cu_nar, pk_cl (1024 + (f * L + i)) (cu_id _ _) (by omega)]) (nm_r (nI_1 i) (ih _ ⟨fun m hm => ?_, fun m hm => ?_⟩))
    · by_cases z : m = f * L + i
      · subst z
        rw [pk_us, if_pos (by omega)]
      · rw [pk_un (by omega), h1 m hm]
        by_cases y : f * L ≤ m ∧ m < f * L + i
        · rw [if_pos y, if_pos (by omega)]
        · rw [if_neg y, if_neg (by omega)]
    · rw [pk_un (by omega)]; exact h2 m hm
theorem cu_ychBad {post : Int32 → SY → Prop} {A B C D : Nat → Int32} {v1 x : Int32} {j : Nat} (hj : j < 2 ^ 31) (hs : cu_is v1 = true) (h : cu_sq j = false) (hp : post (-1) (A, B, C, D)) : wpY_change post (A, B, C, D) v1 (nI j) x := by
  have e : nI j / 1024 = nI (j / 1024) := pk_div (d := 1024) hj (by decide) (by decide)
  have no := of_decide_eq_false h
  refine ⟨by decide, nm_r e ⟨by decide, by decide, nm_r (cu_e32 hj) ⟨by decide, nm_r (cu_r32 hj) (cu_yis ?_)⟩⟩⟩
  rw [hs]
  refine br_f (by decide) (br_f (nI_pos hj) (pk_lt 4 (j / 1024) (fun _ => hp) (fun hl => ?_)))
  have hp2 := cu_p2 (j / 1024) (by omega)
  rw [(cu_shl (j / 1024) (by omega)).2]
  exact pk_le (2 ^ (j / 1024)) (j / 32 % 32) (fun _ => hp) (fun z1 => pk_lt (j % 32) (2 ^ (j / 1024)) (fun z2 => absurd ⟨by omega, z1, z2⟩ no) (fun _ => hp))
theorem cu_ychange {post : Int32 → SY → Prop} {A B C D : Nat → Int32} {s j : Nat} {x : Bool} {S : Nat → Nat → Bool} (hs : s < 4) (hP : cu_P B) (hM : cu_M S C) (hj : j < 2 ^ 31) (hl : j / 1024 < 5) (ha : j / 32 % 32 < 2 ^ (j / 1024)) (hb : j % 32 < 2 ^ (j / 1024))
    (T : Nat → Bool) (hT : T = fun n => if n / cu_L (j / 1024) = cu_f (j / 1024) (j / 32 % 32) (j % 32) then x else S s n)
    (h1 : 40 < cu_st T 256 → ∀ D', post (-2) (A, B, C, D')) (h2 : cu_st T 256 ≤ 40 → ∀ C' D', cu_M (cu_put S s T) C' → post (nI (cu_n T 256)) (A, B, C', D')) : wpY_change post (A, B, C, D) (nI s) (nI j) (cu_b x) := by
  have e : nI j / 1024 = nI (j / 1024) := pk_div (d := 1024) hj (by decide) (by decide)
  have hp2 := cu_p2 (j / 1024) (by omega)
  refine ⟨by decide, nm_r e ⟨by decide, by decide, nm_r (cu_e32 hj) ⟨by decide, nm_r (cu_r32 hj) (cu_yis ?_)⟩⟩⟩
  rw [cu_isN hs]
  refine br_f (by decide) (br_f (nI_pos hj) (br_f (nI_nlt (a := 4) (by omega) (by decide)) ?_))
  rw [(cu_shl (j / 1024) (by omega)).2]
  refine br_f (nI_ge ha (by omega)) (br_t (nI_lt hb (by omega)) ?_)
  refine loop_0 (fun n i D' => wY_change_69 post (nI s) (cu_b x) (nI (j / 1024)) (nI (j / 32 % 32)) (nI (j % 32)) n (nI i) A B C D') (fun i D' => ∀ c, c < i → D' c = cu_b (T (cu_q c))) 256 D lt_0 ?_ ?_
  · intro n D' g
    exact br_t (by decide) (cu_keepY hs hP hM g (fun z => h1 z D') (fun z C' hC' => h2 z C' D' hC'))
  · intro n i D' hi g ih
    have hc : (nI i).toNatClampNeg = i := nI_clamp (by omega)
    have hi2 : vp_in (nI i) 256 := vp_in_nI hi (by decide)
    refine br_f (nI_ge (b := 256) hi (by decide)) (cu_yin hi hl ha hb ?_)
    by_cases z : cu_q i / cu_L (j / 1024) = cu_f (j / 1024) (j / 32 % 32) (j % 32)
    · rw [decide_eq_true z]
      refine br_f (by decide) ⟨hi2, nm_r (e' := upd D' i (cu_b (T (cu_q i)))) (by rw [cu_nar, hc, hT]; dsimp only; rw [if_pos z]) (nm_r (nI_1 i) (ih _ (lt_s (fun c hc => ?_) pk_us)))⟩
      rw [pk_un (by omega)]; exact g c hc
    · have v : C (256 * nI s + nI i).toNatClampNeg = cu_b (S s (cu_q i)) := cu_at _ (cu_iy s i) (by omega) (hM s i hs hi)
      rw [decide_eq_false z]
      refine br_t rfl ⟨pk_in _ 1024 (by omega) (cu_iy s i), hi2, nm_r (e' := upd D' i (cu_b (T (cu_q i)))) (by rw [v, cu_nar, hc, hT]; dsimp only; rw [if_neg z]) (nm_r (nI_1 i) (ih _ (lt_s (fun c hc => ?_) pk_us)))⟩
      rw [pk_un (by omega)]; exact g c hc
theorem i_vc_change {k : Nat} {u : SX} {v : SY} (I : i_Rel k u v) (hk : k + 5 ≤ 2560) (v1 : Int32) (v2 : Int32) (v3 : Int32) : wpX_change (fun r u' => wpY_change (fun r' v' => r' = r ∧ i_Rel (k + 5) u' v') v v1 v2 (lw_bz v3)) u v1 v2 (lw_bz v3) := by
  have J := i_up I
  obtain ⟨a, b⟩ := u
  obtain ⟨A, B, C, D⟩ := v
  obtain ⟨S, hH, hp, hN, hP, hM⟩ := I
  rw [cu_bz]
  generalize (!decide (v3 = 0)) = x
  unfold wpX_change
  refine cu_xis ?_
  cases h : cu_is v1 with
  | false => exact br_t rfl ⟨by decide, nm_e ⟨by decide, by decide, nm_e ⟨by decide, nm_e (cu_yis (by rw [h]; exact br_t rfl ⟨rfl, J⟩))⟩⟩⟩
  | true =>
    refine br_f (by decide) ?_
    by_cases h0 : v2 < 0
    · refine br_t (c := v2 < 0) h0 (br_t rfl ⟨by decide, nm_e ⟨by decide, by decide, nm_e ⟨by decide, nm_e (cu_yis (by rw [h]; exact br_f (by decide) (br_t h0 ⟨rfl, J⟩)))⟩⟩⟩)
    · obtain ⟨j, hj, rfl⟩ := nI_of h0
      refine cu_xsq hj ?_
      cases hq : cu_sq j with
      | false => exact br_t rfl (cu_ychBad hj h hq ⟨rfl, J⟩)
      | true =>
        obtain ⟨s, hs, rfl⟩ := cu_isT h
        obtain ⟨hl, ha, hb⟩ := of_decide_eq_true hq
        refine br_f (by decide) (cu_copy (s := s) (t := 4) (by omega) (by decide) (by omega) (fun n hn => hH s n hs hn) (fun a1 g1 g2 => ?_))
        refine cu_fill hj hl ha hb g1 (fun a2 g3 g4 => ?_)
        have hH2 : cu_H S a2 := fun s' n hs' hn => by
          rw [g4 _ (by omega), g2 _ (by omega)]; exact hH s' n hs' hn
        refine cu_keepX hs hH2 g3 (fun z => ?_) (fun z a3 hH3 => ?_)
        · exact cu_ychange hs hP hM hj hl ha hb _ rfl (fun _ D' => ⟨rfl, ⟨S, hH2, hp, hN, hP, hM⟩⟩) (fun y => absurd y (by omega))
        · exact cu_ychange hs hP hM hj hl ha hb _ rfl (fun y => absurd y (by omega)) (fun _ C' D' hC' => ⟨rfl, ⟨_, hH3, hp, hN, hP, hC'⟩⟩)
end
section
def cu_jn (h : Nat) (p q : Bool) : Bool := if h = 0 then p && q else if h = 1 then p || q else p && !q
theorem cu_xjn {post : Int32 → Prop} {h : Nat} {p q : Bool} (hh : h < 3) (hp : post (cu_b (cu_jn h p q))) : wpX_joined post (nI h) (cu_b p) (cu_b q) := by
  have h3 : h = 0 ∨ h = 1 ∨ h = 2 := by omega
  rcases h3 with rfl | rfl | rfl
  · refine br_t rfl ?_
    cases p
    · exact br_t rfl hp
    · cases q
      · exact br_f (by decide) (br_t rfl hp)
      · exact br_f (by decide) (br_f (by decide) hp)
  · refine br_f (by decide) (br_t rfl ?_)
    cases p
    · cases q
      · exact br_t rfl (br_t rfl hp)
      · exact br_t rfl (br_f (by decide) hp)
    · exact br_f (by decide) hp
  · refine br_f (by decide) (br_f (by decide) ?_)
    cases p
    · exact br_t rfl hp
    · cases q
      · exact br_f (by decide) (br_t rfl hp)
      · exact br_f (by decide) (br_f (by decide) hp)
theorem cu_xcomb {post : Int32 → SX → Prop} {a b : Nat → Int32} {d h s t : Nat} {S : Nat → Nat → Bool} (hd : d < 4) (hh : h < 3) (hs : s < 4) (ht : t < 4) (hH : cu_H S a)
    (T : Nat → Bool) (hT : T = fun n => cu_jn h (S s n) (S t n))
    (h1 : 40 < cu_st T 256 → ∀ a', cu_H S a' → post (-2) (a', b)) (h2 : cu_st T 256 ≤ 40 → ∀ a', cu_H (cu_put S d T) a' → post (nI (cu_n T 256)) (a', b)) : ∃ n, wX_combine_36 post (nI d) (nI h) (nI s) (nI t) n 0 a b := by
  refine loop_0 (fun n i a' => wX_combine_36 post (nI d) (nI h) (nI s) (nI t) n (nI i) a' b) (fun i a' => (∀ n, n < i → a' (1024 + n) = cu_b (T n)) ∧ cu_H S a') 256 a ⟨lt_0, hH⟩ ?_ ?_
  · rintro n a' ⟨g1, g2⟩
    exact br_t (by decide) (cu_keepX hd g2 g1 (fun z => h1 z a' g2) (fun z a2 hH2 => h2 z a2 hH2))
  · rintro n i a' hi ⟨g1, g2⟩ ih
    have va : a' (nI s * 256 + nI i).toNatClampNeg = cu_b (S s i) := cu_at _ (cu_ix s i) (by omega) (g2 s i hs hi)
    have vb : a' (nI t * 256 + nI i).toNatClampNeg = cu_b (S t i) := cu_at _ (cu_ix t i) (by omega) (g2 t i ht hi)
    refine br_f (nI_ge (b := 256) hi (by decide)) ⟨pk_in _ 1280 (by omega) (cu_ix s i), pk_in _ 1280 (by omega) (cu_ix t i), ?_⟩
    rw [va, vb]
    refine cu_xjn hh ⟨pk_in (1024 + i) 1280 (by omega) (cu_id1 i), ?_⟩
    refine nm_r (e' := upd a' (1024 + i) (cu_b (T i))) (by rw [cu_nar, pk_cl (1024 + i) (cu_id1 i) (by omega), hT]) (nm_r (nI_1 i) (ih _ ⟨lt_s (fun m hm => ?_) pk_us, fun s' m hs' hm => ?_⟩))
    · rw [pk_un (by omega)]; exact g1 m hm
    · rw [pk_un (by omega)]; exact g2 s' m hs' hm
theorem cu_ycomb {post : Int32 → SY → Prop} {A B C D : Nat → Int32} {d h s t : Nat} {S : Nat → Nat → Bool} (hd : d < 4) (hh : h < 3) (hs : s < 4) (ht : t < 4) (hP : cu_P B) (hM : cu_M S C)
    (T : Nat → Bool) (hT : T = fun n => cu_jn h (S s n) (S t n))
    (h1 : 40 < cu_st T 256 → ∀ D', post (-2) (A, B, C, D')) (h2 : cu_st T 256 ≤ 40 → ∀ C' D', cu_M (cu_put S d T) C' → post (nI (cu_n T 256)) (A, B, C', D')) : ∃ n, wY_combine_39 post (nI d) (nI h) (nI s) (nI t) n 0 A B C D := by
  refine loop_0 (fun n i D' => wY_combine_39 post (nI d) (nI h) (nI s) (nI t) n (nI i) A B C D') (fun i D' => ∀ c, c < i → D' c = cu_b (T (cu_q c))) 256 D lt_0 ?_ ?_
  · intro n D' g
    exact br_t (by decide) (cu_keepY hd hP hM g (fun z => h1 z D') (fun z C' hC' => h2 z C' D' hC'))
  · intro n i D' hi g ih
    have va : C (256 * nI s + nI i).toNatClampNeg = cu_b (S s (cu_q i)) := cu_at _ (cu_iy s i) (by omega) (hM s i hs hi)
    have vb : C (256 * nI t + nI i).toNatClampNeg = cu_b (S t (cu_q i)) := cu_at _ (cu_iy t i) (by omega) (hM t i ht hi)
    have leaf : ∀ r : Bool, cu_jn h (S s (cu_q i)) (S t (cu_q i)) = r → vp_in (nI i) 256 ∧ ∀ D2 : Nat → Int32, D2 = upd D' (nI i).toNatClampNeg (vp_nar .boolean (cu_b r)) → ∀ x : Int32, x = nI i + 1 → wY_combine_39 post (nI d) (nI h) (nI s) (nI t) n x A B C D2 := by
      intro r er
      refine ⟨vp_in_nI hi (by decide), nm_r (e' := upd D' i (cu_b (T (cu_q i)))) (by rw [cu_nar, nI_clamp (by omega), hT, ← er]) (nm_r (nI_1 i) (ih _ (lt_s (fun c hc => ?_) pk_us)))⟩
      rw [pk_un (by omega)]; exact g c hc
    refine br_f (nI_ge (b := 256) hi (by decide)) ⟨pk_in _ 1024 (by omega) (cu_iy s i), nm_r va ⟨pk_in _ 1024 (by omega) (cu_iy t i), nm_r vb ?_⟩⟩
    have h3 : h = 0 ∨ h = 1 ∨ h = 2 := by omega
    rcases h3 with rfl | rfl | rfl
    · refine br_t rfl ?_
      cases hp : S s (cu_q i) with
      | false => exact br_t rfl (leaf false (by rw [hp]; rfl))
      | true => cases hq : S t (cu_q i) with
        | false => exact br_f (by decide) (br_t rfl (leaf false (by rw [hp, hq]; rfl)))
        | true => exact br_f (by decide) (br_f (by decide) (leaf true (by rw [hp, hq]; rfl)))
    · refine br_f (by decide) (br_t rfl ?_)
      cases hp : S s (cu_q i) with
      | false => cases hq : S t (cu_q i) with
        | false => exact br_t rfl (br_t rfl (leaf false (by rw [hp, hq]; rfl)))
        | true => exact br_t rfl (br_f (by decide) (leaf true (by rw [hp, hq]; rfl)))
      | true => exact br_f (by decide) (leaf true (by rw [hp]; rfl))
    · refine br_f (by decide) (br_f (by decide) ?_)
      cases hp : S s (cu_q i) with
      | false => exact br_t rfl (leaf false (by rw [hp]; rfl))
      | true => cases hq : S t (cu_q i) with
        | false => exact br_f (by decide) (br_t rfl (leaf true (by rw [hp, hq]; rfl)))
        | true => exact br_f (by decide) (br_f (by decide) (leaf false (by rw [hp, hq]; rfl)))
theorem i_vc_combine {k : Nat} {u : SX} {v : SY} (I : i_Rel k u v) (hk : k + 5 ≤ 2560) (v1 : Int32) (v2 : Int32) (v3 : Int32) (v4 : Int32) : wpX_combine (fun r u' => wpY_combine (fun r' v' => r' = r ∧ i_Rel (k + 5) u' v') v v1 v2 v3 v4) u v1 v2 v3 v4 := by
  have J := i_up I
  obtain ⟨a, b⟩ := u
  obtain ⟨A, B, C, D⟩ := v
  obtain ⟨S, hH, hp, hN, hP, hM⟩ := I
  unfold wpX_combine wpY_combine
  refine cu_xis ?_
  cases h1 : cu_is v1 with
  | false => exact br_t rfl (cu_yis (by rw [h1]; exact br_t rfl ⟨rfl, J⟩))
  | true =>
  refine br_f (by decide) (cu_xis ?_)
  cases h3 : cu_is v3 with
  | false => exact br_t rfl (cu_yis (by rw [h1]; exact br_f (by decide) (cu_yis (by rw [h3]; exact br_t rfl ⟨rfl, J⟩))))
  | true =>
  refine br_f (by decide) (cu_xis ?_)
  cases h4 : cu_is v4 with
  | false => exact br_t rfl (cu_yis (by rw [h1]; exact br_f (by decide) (cu_yis (by rw [h3]; exact br_f (by decide) (cu_yis (by rw [h4]; exact br_t rfl ⟨rfl, J⟩))))))
  | true =>
  refine br_f (by decide) ?_
  by_cases n2 : v2 < 0
  · exact br_t n2 (cu_yis (by rw [h1]; exact br_f (by decide) (cu_yis (by rw [h3]; exact br_f (by decide) (cu_yis (by rw [h4]; exact br_f (by decide) (br_t n2 ⟨rfl, J⟩)))))))
  by_cases m2 : v2 ≤ 2
  · obtain ⟨h, hh, rfl⟩ := nI_of2 (M := 2) (n := 2) (by decide) n2 m2
    obtain ⟨d, hd, rfl⟩ := cu_isT h1
    obtain ⟨s, hs, rfl⟩ := cu_isT h3
    obtain ⟨t, ht, rfl⟩ := cu_isT h4
    refine br_f n2 (br_t m2 (cu_xcomb hd (by omega) hs ht hH _ rfl (fun z a' hH' => cu_yis ?_) (fun z a' hH' => cu_yis ?_)))
    · rw [h1]
      refine br_f (by decide) (cu_yis ?_)
      rw [h3]
      refine br_f (by decide) (cu_yis ?_)
      rw [h4]
      exact br_f (by decide) (br_f n2 (br_t m2 (cu_ycomb hd (by omega) hs ht hP hM _ rfl (fun _ D' => ⟨rfl, ⟨S, hH', hp, hN, hP, hM⟩⟩) (fun y => absurd y (by omega)))))
    · rw [h1]
      refine br_f (by decide) (cu_yis ?_)
      rw [h3]
      refine br_f (by decide) (cu_yis ?_)
      rw [h4]
      exact br_f (by decide) (br_f n2 (br_t m2 (cu_ycomb hd (by omega) hs ht hP hM _ rfl (fun y => absurd y (by omega)) (fun _ C' D' hC' => ⟨rfl, ⟨_, hH', hp, hN, hP, hC'⟩⟩))))
  · exact br_f n2 (br_f m2 (cu_yis (by rw [h1]; exact br_f (by decide) (cu_yis (by rw [h3]; exact br_f (by decide) (cu_yis (by rw [h4]; exact br_f (by decide) (br_f n2 (br_f m2 ⟨rfl, J⟩)))))))))
end
section
theorem cu_blk : ∀ l, l < 5 → ∀ n, n < 256 → n / cu_L l * cu_L l + cu_L l ≤ 256 ∧ n / cu_L l * cu_L l ≤ n := by decide +kernel
theorem cu_fn {l n : Nat} (hl : l < 5) (hn : n < 256) : cu_f l (cu_p n / 16 / cu_w l) (cu_p n % 16 / cu_w l) = n / cu_L l := cu_gA l hl n hn
theorem cu_sl {post : Int32 → Prop} {l : Nat} (hl : l < 5) (h : post (nI (cu_L l))) : wpX_squareLength post (nI l) := by
  unfold wpX_squareLength
  rw [(cu_shr l hl).2.2.1]; exact h
/-- is the square of level l about n wholly in -/
def cu_fu (T : Nat → Bool) (l n : Nat) : Bool := decide (cu_n (fun i => T (n / cu_L l * cu_L l + i)) (cu_L l) = cu_L l)
theorem cu_fuI {T : Nat → Bool} {l n : Nat} (hl : l < 5) (hn : n < 256) : cu_fu T l n = true ↔ ∀ c, c < 256 → cu_q c / cu_L l = n / cu_L l → T (cu_q c) = true := by
  have hL := cu_Lpos l
  have hb := cu_blk l hl n hn
  unfold cu_fu
  rw [decide_eq_true_iff, cu_nall]
  constructor
  · intro h c hc e
    have h' := h (cu_q c % cu_L l) (Nat.mod_lt _ hL)
    rw [← e, Nat.mul_comm, Nat.div_add_mod] at h'
    exact h'
  · intro h i hi
    have hm : n / cu_L l * cu_L l + i < 256 := by omega
    have h' := h (cu_p (n / cu_L l * cu_L l + i)) (cu_plt _)
    rw [cu_qp _ hm] at h'
    exact h' (by rw [Nat.mul_comm, Nat.mul_add_div hL, Nat.div_eq_of_lt hi, Nat.add_zero])
theorem cu_fuT {T : Nat → Bool} {l n : Nat} (hl : l < 5) (hn : n < 256) (h : cu_fu T l n = true) : T n = true := by
  have h' := (cu_fuI hl hn).mp h (cu_p n) (cu_plt n)
  rw [cu_qp n hn] at h'
  exact h' rfl
theorem cu_fu4 {T : Nat → Bool} {n : Nat} (hn : n < 256) : cu_fu T 4 n = T n := by
  have h : cu_fu T 4 n = true ↔ T n = true := by
    constructor
    · exact cu_fuT (by decide) hn
    · intro h
      rw [cu_fuI (by decide) hn]
      intro c hc e
      have e1 : cu_L 4 = 1 := rfl
      rw [e1, Nat.div_one, Nat.div_one] at e
      rw [e]; exact h
  cases h1 : cu_fu T 4 n <;> cases h2 : T n <;> simp_all
def cu_lx (T : Nat → Bool) (n : Nat) : Nat → Nat → Option Nat
  | 0, _ => none
  | d + 1, l => if cu_fu T l n = true then (if n / cu_L l * cu_L l = n then some l else none) else cu_lx T n d (l + 1)
def cu_ly (T : Nat → Bool) (n : Nat) : Nat → Nat → Nat
  | 0, _ => 4
  | d + 1, l => if cu_fu T l n = true then l else cu_ly T n d (l + 1)
def cu_en : Option Nat → Int32
  | none => -3
  | some l => nI l
def cu_pc (T : Nat → Bool) (n : Nat) : Option Nat := if T n = true then (if n / cu_L (cu_ly T n 4 0) * cu_L (cu_ly T n 4 0) = n then some (cu_ly T n 4 0) else none) else none
theorem cu_lylt (T : Nat → Bool) (n : Nat) : ∀ d l, l + d = 4 → cu_ly T n d l < 5 := by
  intro d
  induction d with
  | zero => intro l _; exact (by decide : 4 < 5)
  | succ d ih =>
    intro l hl
    rw [cu_ly]
    split
    · omega
    · exact ih (l + 1) (by omega)
theorem cu_lxy {T : Nat → Bool} {n : Nat} (hn : n < 256) : ∀ d l, l + d = 4 → cu_lx T n (d + 1) l = if T n = true then (if n / cu_L (cu_ly T n d l) * cu_L (cu_ly T n d l) = n then some (cu_ly T n d l) else none) else none := by
  intro d
  induction d with
  | zero =>
    intro l hl
    have : l = 4 := by omega
    subst this
    rw [cu_lx, cu_fu4 hn, cu_lx, cu_ly]
  | succ d ih =>
    intro l hl
    rw [cu_lx, cu_ly]
    by_cases h : cu_fu T l n = true
    · rw [if_pos h, if_pos h, if_pos (cu_fuT (by omega) hn h)]
    · rw [if_neg h, if_neg h]
      exact ih (l + 1) (by omega)
theorem cu_xlv {post : Int32 → Prop} {a b : Nat → Int32} {s n : Nat} {T : Nat → Bool} (hs : s < 4) (hT : ∀ n, n < 256 → a (256 * s + n) = cu_b (T n)) (hn : n < 256) :
    ∀ d l, l + d = 5 → post (cu_en (cu_lx T n d l)) → wX_levelOfPieceFrom_2 post (nI s) (nI n) a b (d + 1) (nI l) := by
  intro d
  induction d with
  | zero =>
    intro l hl h
    have : l = 5 := by omega
    subst this
    exact br_t (by decide) h
  | succ d ih =>
    intro l hl h
    have hl5 : l < 5 := by omega
    have hb := cu_blk l hl5 n hn
    have hle := cu_nle (fun i => T (n / cu_L l * cu_L l + i)) (cu_L l)
    rw [cu_lx] at h
    refine br_f (nI_nlt (a := 4) (by omega) (by decide)) (cu_sl hl5 (nm_r (cu_neg l hl5 n hn) (cu_run (s := s) (by omega) hb.1 hT (pk_eq _ (cu_L l) (fun z => ?_) (fun z => ?_)))))
    · rw [if_pos (show cu_fu T l n = true from decide_eq_true z)] at h
      refine pk_eq (n / cu_L l * cu_L l) n (fun y => ?_) (fun y => ?_)
      · rw [if_pos y] at h; exact h
      · rw [if_neg y] at h; exact h
    · rw [if_neg (show ¬ cu_fu T l n = true from fun y => z (of_decide_eq_true y))] at h
      exact nm_r (nI_1 l) (ih (l + 1) (by omega) h)
theorem cu_xlev {post : Int32 → Prop} {a b : Nat → Int32} {s n : Nat} {T : Nat → Bool} (hs : s < 4) (hT : ∀ n, n < 256 → a (256 * s + n) = cu_b (T n)) (hn : n < 256) (h : post (cu_en (cu_pc T n))) : wpX_levelOfPieceFrom post (a, b) (nI s) (nI n) := by
  refine ⟨6, cu_xlv hs hT hn 5 0 rfl ?_⟩
  rw [cu_lxy hn 4 0 rfl]
  exact h
/-- whole -/
theorem cu_ywhole {post : Int32 → Prop} {A B C D : Nat → Int32} {s l x y : Nat} {T : Nat → Bool} {W : Bool} (hs : s < 4) (hl : l < 5) (hx : x < 2 ^ l) (hy : y < 2 ^ l) (hT : ∀ c, c < 256 → C (256 * s + c) = cu_b (T (cu_q c)))
    (hW : W = true ↔ ∀ c, c < 256 → cu_q c / cu_L l = cu_f l x y → T (cu_q c) = true) (h : post (cu_b W)) : wpY_whole post (A, B, C, D) (nI s) (nI l) (nI x) (nI y) := by
  refine loop_0 (fun n i (_ : Unit) => wY_whole_3 post (nI s) (nI l) (nI x) (nI y) A B C D n (nI i)) (fun i _ => ∀ c, c < i → cu_q c / cu_L l = cu_f l x y → T (cu_q c) = true) 256 () lt_0 ?_ ?_
  · intro n _ g
    rw [hW.mpr g] at h
    exact br_t (by decide) h
  · intro n i _ hi g ih
    refine br_f (nI_ge (b := 256) hi (by decide)) (cu_yin hi hl hx hy ?_)
    by_cases z : cu_q i / cu_L l = cu_f l x y
    · have v : C (256 * nI s + nI i).toNatClampNeg = cu_b (T (cu_q i)) := cu_at _ (cu_iy s i) (by omega) (hT i hi)
      rw [decide_eq_true z]
      refine br_f (by decide) ⟨pk_in _ 1024 (by omega) (cu_iy s i), ?_⟩
      cases e : T (cu_q i) with
      | false =>
        have hw : W = false := by
          cases hw : W with
          | false => rfl
          | true =>
            have := hW.mp hw i hi z
            rw [e] at this
            exact this.symm
        rw [hw] at h
        exact br_t (v.trans (cu_b0 e)) h
      | true => exact br_f (fun z => cu_b1 e (v.symm.trans z)) (nm_r (nI_1 i) (ih () (lt_s g (fun _ => e))))
    · rw [decide_eq_false z]
      exact br_t rfl (nm_r (nI_1 i) (ih () (lt_s g (fun y => absurd y z))))
theorem cu_ylv {post : Int32 → Prop} {A B C D : Nat → Int32} {s n : Nat} {T : Nat → Bool} (hs : s < 4) (hT : ∀ c, c < 256 → C (256 * s + c) = cu_b (T (cu_q c))) (hn : n < 256) :
    ∀ d l, l + d = 4 → post (nI (cu_ly T n d l)) → wY_levelAt_2 post (nI s) (nI (cu_p n)) A B C D (d + 1) (nI l) := by
  have hc := cu_plt n
  have e1 : nI (cu_p n) / 16 = nI (cu_p n / 16) := pk_div (d := 16) (by omega) (by decide) (by decide)
  have e2 : nI (cu_p n) - nI (cu_p n) / 16 * 16 = nI (cu_p n % 16) := pk_rem (d := 16) (by omega) (by decide) (by decide)
  intro d
  induction d with
  | zero =>
    intro l hl h
    have : l = 4 := by omega
    subst this
    exact br_t (by decide) h
  | succ d ih =>
    intro l hl h
    have hl5 : l < 5 := by omega
    have hw := cu_wpos l
    have hp2 := cu_p2 l hl5
    have hab := cu_ab l hl5 (cu_p n) hc
    have hw0 : ¬ nI (cu_w l) = 0 := nI_ne0 hw (by omega)
    rw [cu_ly] at h
    refine br_f (nI_ge (b := 4) (by omega) (by decide)) (nm_r (cu_shr l hl5).1 (br_f (nI_nle hw (by omega)) ⟨by decide, hw0, by decide, hw0, ?_⟩))
    rw [e2, e1, pk_div (by omega) hw (by omega), pk_div (by omega) hw (by omega)]
    refine cu_ywhole (W := cu_fu T l n) hs hl5 hab.1 hab.2 hT (by rw [cu_fn hl5 hn]; exact cu_fuI hl5 hn) ?_
    cases e : cu_fu T l n with
    | false =>
      rw [if_neg (by rw [e]; decide)] at h
      exact br_t rfl (nm_r (nI_1 l) (ih (l + 1) (by omega) h))
    | true =>
      rw [if_pos e] at h
      exact br_f (by decide) h
theorem cu_ylev {post : Int32 → Prop} {A B C D : Nat → Int32} {s n : Nat} {T : Nat → Bool} (hs : s < 4) (hT : ∀ c, c < 256 → C (256 * s + c) = cu_b (T (cu_q c))) (hn : n < 256) (h : post (nI (cu_ly T n 4 0))) : wpY_levelAt post (A, B, C, D) (nI s) (nI (cu_p n)) :=
  ⟨5, cu_ylv hs hT hn 4 0 rfl h⟩
theorem cu_yfirst {post : Int32 → Prop} {A B C D : Nat → Int32} {n l : Nat} (hN : cu_N A) (hn : n < 256) (hl : l < 5) (h : post (nI (n / cu_L l * cu_L l))) : wpY_firstNumber post (A, B, C, D) (nI (cu_p n)) (nI l) := by
  have hc := cu_plt n
  have e1 : nI (cu_p n) / 16 = nI (cu_p n / 16) := pk_div (d := 16) (by omega) (by decide) (by decide)
  have e2 : nI (cu_p n) - nI (cu_p n) / 16 * 16 = nI (cu_p n % 16) := pk_rem (d := 16) (by omega) (by decide) (by decide)
  have hw := cu_wpos l
  have hp2 := cu_p2 l hl
  have hab := cu_ab l hl (cu_p n) hc
  have hw0 : ¬ nI (cu_w l) = 0 := nI_ne0 hw (by omega)
  have hb := cu_blk l hl n hn
  refine nm_r (cu_shr l hl).2.1 ?_
  refine loop_0 (fun m i x => wY_firstNumber_16 post (nI (cu_p n)) (nI l) (nI (cu_w l)) A B C D m x (nI i)) (fun i x => ∃ m, x = nI m ∧ m < 256 ∧ n / cu_L l * cu_L l ≤ m ∧ ∀ c, c < i → cu_q c / cu_L l = n / cu_L l → m ≤ cu_q c) 256 255 ⟨255, rfl, by decide, by omega, lt_0⟩ ?_ ?_
  · rintro m x ⟨r, rfl, hr, hr1, hr2⟩
    have h3 := hr2 (cu_p (n / cu_L l * cu_L l)) (cu_plt _)
    rw [cu_qp _ (by omega), Nat.mul_div_cancel _ (cu_Lpos l)] at h3
    have h4 := h3 rfl
    have h5 : r = n / cu_L l * cu_L l := by omega
    rw [← h5] at h
    exact br_t (by decide) h
  · rintro m i x hi ⟨r, rfl, hr, hr1, hr2⟩ ih
    refine br_f (nI_ge (b := 256) hi (by decide)) (br_f (nI_nle hw (by omega)) ⟨by decide, hw0, by decide, hw0, ?_⟩)
    rw [e2, e1, pk_div (by omega) hw (by omega), pk_div (by omega) hw (by omega)]
    refine cu_yin hi hl hab.1 hab.2 ?_
    rw [cu_fn hl hn]
    by_cases z : cu_q i / cu_L l = n / cu_L l
    · have hq := cu_qlt i
      have v : A (nI i).toNatClampNeg = nI (cu_q i) := by rw [nI_clamp (by omega)]; exact hN i hi
      rw [decide_eq_true z]
      refine br_f (by decide) ⟨vp_in_nI hi (by decide), pk_le r (cu_q i) (fun y => ?_) (fun y => ?_) rfl v⟩
      · exact nm_r (nI_1 i) (ih _ ⟨r, rfl, hr, hr1, lt_s hr2 (fun _ => y)⟩)
      · refine ⟨vp_in_nI hi (by decide), nm_r v (nm_r (nI_1 i) (ih _ ⟨cu_q i, rfl, hq, ?_, lt_s (fun c hc e => ?_) (fun _ => Nat.le_refl _)⟩))⟩
        · rw [← z]; exact Nat.div_mul_le_self _ _
        · have := hr2 c hc e
          omega
    · rw [decide_eq_false z]
      exact br_t rfl (nm_r (nI_1 i) (ih _ ⟨r, rfl, hr, hr1, lt_s hr2 (fun y => absurd y z)⟩))
theorem cu_enS (l : Nat) (hl : l < 5) : ¬ cu_en (some l) = -3 := by
  revert l
  decide +kernel
theorem cu_pcn {T : Nat → Bool} {n : Nat} (h : T n = false) : cu_pc T n = none := by rw [cu_pc, if_neg (by rw [h]; decide)]
theorem cu_pcy {T : Nat → Bool} {n : Nat} (h : T n = true) (e : n / cu_L (cu_ly T n 4 0) * cu_L (cu_ly T n 4 0) = n) : cu_pc T n = some (cu_ly T n 4 0) := by rw [cu_pc, if_pos h, if_pos e]
theorem cu_pcz {T : Nat → Bool} {n : Nat} (h : T n = true) (e : ¬ n / cu_L (cu_ly T n 4 0) * cu_L (cu_ly T n 4 0) = n) : cu_pc T n = none := by rw [cu_pc, if_pos h, if_neg e]
theorem cu_pclt {T : Nat → Bool} {n l : Nat} (h : cu_pc T n = some l) : l < 5 := by
  rw [cu_pc] at h
  split at h
  · split at h
    · cases h
      exact cu_lylt T n 4 0 rfl
    · cases h
  · cases h
theorem i_vc_pieces {k : Nat} {u : SX} {v : SY} (I : i_Rel k u v) (hk : k + 5 ≤ 2560) (v1 : Int32) : wpX_pieces (fun r => wpY_pieces (fun r' => r' = r ∧ i_Rel (k + 5) u v) v v1) u v1 := by
  have J := i_up I
  obtain ⟨a, b⟩ := u
  obtain ⟨A, B, C, D⟩ := v
  obtain ⟨S, hH, hp, hN, hP, hM⟩ := I
  unfold wpX_pieces wpY_pieces
  refine cu_xis ?_
  cases h : cu_is v1 with
  | false => exact br_t rfl (cu_yis (by rw [h]; exact br_t rfl ⟨rfl, J⟩))
  | true =>
    obtain ⟨s, hs, rfl⟩ := cu_isT h
    have hX := fun n hn => hH s n hs hn
    have hY := fun n hn => hM s n hs hn
    refine br_f (by decide) ?_
    refine loop_0 (fun n i c => wX_pieces_13 _ (nI s) a b n c (nI i)) (fun i c => c = nI (cu_n (fun n => (cu_pc (S s) n).isSome) i)) 256 0 rfl ?_ ?_
    · intro n c hc
      refine br_t (by decide) (cu_yis ?_)
      rw [h, hc]
      refine br_f (by decide) ?_
      refine loop_0 (fun n i c => wY_pieces_14 _ (nI s) A B C D n c (nI i)) (fun i c => c = nI (cu_n (fun n => (cu_pc (S s) n).isSome) i)) 256 0 rfl ?_ ?_
      · intro n c hc
        exact br_t (by decide) ⟨hc, J⟩
      · intro n i c hi hc ih
        subst hc
        have v := cu_mk (T := S s) hs hP hY hi
        refine br_f (nI_ge (b := 256) hi (by decide)) ⟨vp_in_nI hi (by decide), v.1, ?_⟩
        cases e : S s i with
        | false => exact br_t (v.2.trans (cu_b0 e)) (nm_r (nI_1 i) (ih _ (congrArg nI (cu_nf (f := fun n => (cu_pc (S s) n).isSome) (by show (cu_pc (S s) i).isSome = false; rw [cu_pcn e]; rfl)).symm)))
        | true =>
          refine br_f (fun z => cu_b1 e (v.2.symm.trans z)) ⟨vp_in_nI hi (by decide), ?_⟩
          rw [cu_pl (B := B) hP hi]
          refine cu_ylev hs hY hi ⟨vp_in_nI hi (by decide), cu_yfirst hN hi (cu_lylt _ _ 4 0 rfl) ?_⟩
          have hb := cu_blk _ (cu_lylt (S s) i 4 0 rfl) i hi
          refine pk_eq _ i (fun y => ?_) (fun y => ?_)
          · exact nm_r (nI_1 _) (nm_r (nI_1 i) (ih _ (congrArg nI (cu_nt (f := fun n => (cu_pc (S s) n).isSome) (by show (cu_pc (S s) i).isSome = true; rw [cu_pcy e y]; rfl)).symm)))
          · exact nm_r (nI_1 i) (ih _ (congrArg nI (cu_nf (f := fun n => (cu_pc (S s) n).isSome) (by show (cu_pc (S s) i).isSome = false; rw [cu_pcz e y]; rfl)).symm))
    · intro n i c hi hc ih
      subst hc
      refine br_f (nI_ge (b := 256) hi (by decide)) (cu_xlev hs hX hi ?_)
      cases e : cu_pc (S s) i with
      | none => exact br_t rfl (nm_r (nI_1 i) (ih _ (congrArg nI (cu_nf (f := fun n => (cu_pc (S s) n).isSome) (by show (cu_pc (S s) i).isSome = false; rw [e]; rfl)).symm)))
      | some l => exact br_f (cu_enS l (cu_pclt e)) (nm_r (nI_1 _) (nm_r (nI_1 i) (ih _ (congrArg nI (cu_nt (f := fun n => (cu_pc (S s) n).isSome) (by show (cu_pc (S s) i).isSome = true; rw [e]; rfl)).symm))))
def cu_pA (T : Nat → Bool) (i : Nat) : Option Int32 := (cu_pc T i).map (fun l => nI (256 * l + i))
theorem cu_xpiece {post : Int32 → Prop} {a b : Nat → Int32} {s : Nat} {T : Nat → Bool} {k : Int32} (hs : s < 4) (hT : ∀ n, n < 256 → a (256 * s + n) = cu_b (T n)) :
    ∀ d i c, i + d = 256 → post (cu_kth (cu_pA T) k d i c) → wX_piece_14 post (nI s) k a b (d + 1) c (nI i) := by
  intro d
  induction d with
  | zero =>
    intro i c hi h
    have : i = 256 := by omega
    subst this
    exact br_t (by decide) h
  | succ d ih =>
    intro i c hi h
    refine br_f (nI_ge (b := 256) (by omega) (by decide)) (cu_xlev hs hT (by omega) ?_)
    cases e : cu_pc T i with
    | none =>
      rw [cu_kn (by rw [cu_pA, e]; rfl)] at h
      exact br_t rfl (nm_r (nI_1 i) (ih (i + 1) c (by omega) h))
    | some l =>
      have eA : cu_pA T i = some (nI (256 * l + i)) := by rw [cu_pA, e]; rfl
      refine br_f (cu_enS l (cu_pclt e)) ?_
      by_cases ec : c = k
      · rw [cu_ks eA ec, ← cu_iy] at h
        exact br_t ec h
      · rw [cu_kd eA ec] at h
        exact br_f ec (nm_e (nm_r (nI_1 i) (ih (i + 1) (c + 1) (by omega) h)))
theorem cu_ypiece {post : Int32 → Prop} {A B C D : Nat → Int32} {s : Nat} {T : Nat → Bool} {k : Int32} (hs : s < 4) (hN : cu_N A) (hP : cu_P B) (hT : ∀ c, c < 256 → C (256 * s + c) = cu_b (T (cu_q c))) :
    ∀ d i c, i + d = 256 → post (cu_kth (cu_pA T) k d i c) → wY_piece_15 post (nI s) k A B C D (d + 1) c (nI i) := by
  intro d
  induction d with
  | zero =>
    intro i c hi h
    have : i = 256 := by omega
    subst this
    exact br_t (by decide) h
  | succ d ih =>
    intro i c hi h
    have hi2 : i < 256 := by omega
    have v := cu_mk hs hP hT hi2
    refine br_f (nI_ge (b := 256) hi2 (by decide)) ⟨vp_in_nI hi2 (by decide), v.1, ?_⟩
    cases e : T i with
    | false =>
      rw [cu_kn (by rw [cu_pA, cu_pcn e]; rfl)] at h
      exact br_t (v.2.trans (cu_b0 e)) (nm_r (nI_1 i) (ih (i + 1) c (by omega) h))
    | true =>
      refine br_f (fun z => cu_b1 e (v.2.symm.trans z)) ⟨vp_in_nI hi2 (by decide), ?_⟩
      rw [cu_pl (B := B) hP hi2]
      refine cu_ylev hs hT hi2 ⟨vp_in_nI hi2 (by decide), cu_yfirst hN hi2 (cu_lylt _ _ 4 0 rfl) ?_⟩
      have hb := cu_blk _ (cu_lylt T i 4 0 rfl) i hi2
      refine pk_eq _ i (fun y => ?_) (fun y => ?_)
      · have eA : cu_pA T i = some (nI (256 * cu_ly T i 4 0 + i)) := by rw [cu_pA, cu_pcy e y]; rfl
        by_cases ec : c = k
        · rw [cu_ks eA ec, ← cu_iy] at h
          exact br_t ec h
        · rw [cu_kd eA ec] at h
          exact br_f ec (nm_e (nm_r (nI_1 i) (ih (i + 1) (c + 1) (by omega) h)))
      · rw [cu_kn (by rw [cu_pA, cu_pcz e y]; rfl)] at h
        exact nm_r (nI_1 i) (ih (i + 1) c (by omega) h)
theorem i_vc_piece {k : Nat} {u : SX} {v : SY} (I : i_Rel k u v) (hk : k + 5 ≤ 2560) (v1 : Int32) (v2 : Int32) : wpX_piece (fun r => wpY_piece (fun r' => r' = r ∧ i_Rel (k + 5) u v) v v1 v2) u v1 v2 := by
  have J := i_up I
  obtain ⟨a, b⟩ := u
  obtain ⟨A, B, C, D⟩ := v
  obtain ⟨S, hH, hp, hN, hP, hM⟩ := I
  unfold wpX_piece wpY_piece
  refine cu_xis ?_
  cases h : cu_is v1 with
  | false => exact br_t rfl (cu_yis (by rw [h]; exact br_t rfl ⟨rfl, J⟩))
  | true =>
    obtain ⟨s, hs, rfl⟩ := cu_isT h
    refine br_f (by decide) ⟨257, cu_xpiece hs (fun n hn => hH s n hs hn) 256 0 0 rfl (cu_yis ?_)⟩
    rw [h]
    exact br_f (by decide) ⟨257, cu_ypiece hs hN hP (fun c hc => hM s c hs hc) 256 0 0 rfl ⟨rfl, J⟩⟩
end
section
theorem cu_sh4 : ∀ l, l < 5 → (1 : Int32) <<< ((2 * nI l) &&& 31) = nI (4 ^ l) ∧ 4 ^ l ≤ 256 ∧ 4 ^ l = 2 ^ l * 2 ^ l ∧ 4 ^ l * cu_L l = 256 := by decide +kernel
theorem cu_perml : ∀ l, l < 5 → ((List.range (4 ^ l)).map (fun j => cu_f l (j / 2 ^ l) (j % 2 ^ l))).isPerm (List.range (4 ^ l)) = true := by decide +kernel
theorem cu_blt : ∀ l, l < 5 → ∀ i, i < 4 ^ l → (i + 1) * cu_L l ≤ 256 := by decide +kernel
/-- is the i-th square of level l touched -/
def cu_to (T : Nat → Bool) (l i : Nat) : Bool := decide (0 < cu_n (fun j => T (i * cu_L l + j)) (cu_L l))
theorem cu_toI {T : Nat → Bool} {l i : Nat} (hi : (i + 1) * cu_L l ≤ 256) : cu_to T l i = true ↔ ∃ c, c < 256 ∧ cu_q c / cu_L l = i ∧ T (cu_q c) = true := by
  have hL := cu_Lpos l
  have hm : (i + 1) * cu_L l = i * cu_L l + cu_L l := Nat.succ_mul _ _
  unfold cu_to
  rw [decide_eq_true_iff, cu_npos]
  constructor
  · rintro ⟨j, hj, h⟩
    have hlt : i * cu_L l + j < 256 := by omega
    refine ⟨cu_p (i * cu_L l + j), cu_plt _, ?_, ?_⟩
    · rw [cu_qp _ hlt, Nat.mul_comm, Nat.mul_add_div hL, Nat.div_eq_of_lt hj, Nat.add_zero]
    · rw [cu_qp _ hlt]; exact h
  · rintro ⟨c, hc, rfl, h⟩
    refine ⟨cu_q c % cu_L l, Nat.mod_lt _ hL, ?_⟩
    rw [Nat.mul_comm, Nat.div_add_mod]
    exact h
theorem cu_ysome {post : Int32 → Prop} {A B C D : Nat → Int32} {s l x y : Nat} {T : Nat → Bool} {W : Bool} (hs : s < 4) (hl : l < 5) (hx : x < 2 ^ l) (hy : y < 2 ^ l) (hT : ∀ c, c < 256 → C (256 * s + c) = cu_b (T (cu_q c)))
    (hW : W = true ↔ ∃ c, c < 256 ∧ cu_q c / cu_L l = cu_f l x y ∧ T (cu_q c) = true) (h : post (cu_b W)) : wpY_some post (A, B, C, D) (nI s) (nI l) (nI x) (nI y) := by
  refine loop_0 (fun n i (_ : Unit) => wY_some_3 post (nI s) (nI l) (nI x) (nI y) A B C D n (nI i)) (fun i _ => ∀ c, c < i → ¬ (cu_q c / cu_L l = cu_f l x y ∧ T (cu_q c) = true)) 256 () lt_0 ?_ ?_
  · intro n _ g
    have hw : W = false := by
      cases hw : W with
      | false => rfl
      | true =>
        obtain ⟨c, hc, h'⟩ := hW.mp hw
        exact absurd h' (g c hc)
    rw [hw] at h
    exact br_t (by decide) h
  · intro n i _ hi g ih
    have v : C (256 * nI s + nI i).toNatClampNeg = cu_b (T (cu_q i)) := cu_at _ (cu_iy s i) (by omega) (hT i hi)
    refine br_f (nI_ge (b := 256) hi (by decide)) ⟨pk_in _ 1024 (by omega) (cu_iy s i), ?_⟩
    cases e : T (cu_q i) with
    | false => exact br_t (v.trans (cu_b0 e)) (nm_r (nI_1 i) (ih () (lt_s g (fun y => by rw [e] at y; exact absurd y.2 (by decide)))))
    | true =>
      refine br_f (fun z => cu_b1 e (v.symm.trans z)) (cu_yin hi hl hx hy ?_)
      by_cases z : cu_q i / cu_L l = cu_f l x y
      · rw [decide_eq_true z]
        rw [hW.mpr ⟨i, hi, z, e⟩] at h
        exact br_f (by decide) h
      · rw [decide_eq_false z]
        exact br_t rfl (nm_r (nI_1 i) (ih () (lt_s g (fun y => z y.1))))
theorem cu_xtouch {post : Int32 → Prop} {a b : Nat → Int32} {s l : Nat} {T : Nat → Bool} (hs : s < 4) (hl : l < 5) (hT : ∀ n, n < 256 → a (256 * s + n) = cu_b (T n)) (h : post (nI (cu_n (cu_to T l) (4 ^ l)))) : ∃ n, wX_touched_36 post (nI s) (nI (cu_L l)) (nI (4 ^ l)) a b n 0 0 := by
  have h4 := cu_sh4 l hl
  refine loop_0 (fun n i c => wX_touched_36 post (nI s) (nI (cu_L l)) (nI (4 ^ l)) a b n c (nI i)) (fun i c => c = nI (cu_n (cu_to T l) i)) (4 ^ l) 0 rfl ?_ ?_
  · intro n c hc
    subst hc
    exact br_t (nI_le (Nat.le_refl _) (by omega)) h
  · intro n i c hi hc ih
    subst hc
    have hb := cu_blt l hl i hi
    have hm : (i + 1) * cu_L l = i * cu_L l + cu_L l := Nat.succ_mul _ _
    have hle := cu_nle (fun j => T (i * cu_L l + j)) (cu_L l)
    refine br_f (nI_ge hi (by omega)) ?_
    rw [pk_mul]
    refine cu_run (s := s) (by omega) (by omega) hT (pk_le (cu_n (fun j => T (i * cu_L l + j)) (cu_L l)) 0 (fun z => ?_) (fun z => ?_))
    · exact nm_r (nI_1 i) (ih _ (congrArg nI (cu_nf (f := cu_to T l) (decide_eq_false (by omega))).symm))
    · exact nm_r (nI_1 _) (nm_r (nI_1 i) (ih _ (congrArg nI (cu_nt (f := cu_to T l) (decide_eq_true z)).symm)))
theorem cu_ytouch {post : Int32 → Prop} {A B C D : Nat → Int32} {s l : Nat} {T : Nat → Bool} (hs : s < 4) (hl : l < 5) (hT : ∀ c, c < 256 → C (256 * s + c) = cu_b (T (cu_q c))) (h : post (nI (cu_n (cu_to T l) (4 ^ l)))) : ∃ n, wY_touched_29 post (nI s) (nI l) (nI (2 ^ l)) A B C D n 0 0 := by
  have h4 := (cu_sh4 l hl).2.2.1
  have hp2 := cu_p2 l hl
  rw [← cu_nperm (List.isPerm_iff.mp (cu_perml l hl)) (cu_to T l), h4] at h
  have hk : 0 < 2 ^ l := Nat.two_pow_pos l
  refine loop_0 (fun n i c => wY_touched_29 post (nI s) (nI l) (nI (2 ^ l)) A B C D n c (nI i)) (fun i c => c = nI (cu_n (fun j => cu_to T l (cu_f l (j / 2 ^ l) (j % 2 ^ l))) (i * 2 ^ l))) (2 ^ l) 0 (by rw [Nat.zero_mul]; rfl) ?_ ?_
  · intro n c hc
    subst hc
    exact br_t (nI_le (Nat.le_refl _) (by omega)) h
  · intro n x c hx hc ih
    subst hc
    refine br_f (nI_ge hx (by omega)) ?_
    refine loop_0 (fun m y c => wY_touched_38 post (wY_touched_29 post (nI s) (nI l) (nI (2 ^ l)) A B C D n) (nI s) (nI l) (nI (2 ^ l)) (nI x) A B C D m c (nI y)) (fun y c => c = nI (cu_n (fun j => cu_to T l (cu_f l (j / 2 ^ l) (j % 2 ^ l))) (x * 2 ^ l + y))) (2 ^ l) _ rfl ?_ ?_
    · intro m c hc
      subst hc
      exact br_t (nI_le (Nat.le_refl _) (by omega)) (nm_r (nI_1 x) (ih _ (by rw [Nat.succ_mul])))
    · intro m y c hy hc ih2
      subst hc
      have e1 : (x * 2 ^ l + y) / 2 ^ l = x := by rw [Nat.mul_comm, Nat.mul_add_div hk, Nat.div_eq_of_lt hy, Nat.add_zero]
      have e2 : (x * 2 ^ l + y) % 2 ^ l = y := by rw [Nat.mul_comm, Nat.mul_add_mod, Nat.mod_eq_of_lt hy]
      have ef : cu_to T l (cu_f l ((x * 2 ^ l + y) / 2 ^ l) ((x * 2 ^ l + y) % 2 ^ l)) = cu_to T l (cu_f l x y) := by rw [e1, e2]
      refine br_f (nI_ge hy (by omega)) (cu_ysome (W := cu_to T l (cu_f l x y)) hs hl hx hy hT (cu_toI (cu_flt l hl x hx y hy)) ?_)
      cases e : cu_to T l (cu_f l x y) with
      | false => exact br_t rfl (nm_r (nI_1 y) (ih2 _ (congrArg nI (cu_nf (f := fun j => cu_to T l (cu_f l (j / 2 ^ l) (j % 2 ^ l))) (ef.trans e)).symm)))
      | true => exact br_f (by decide) (nm_r (nI_1 _) (nm_r (nI_1 y) (ih2 _ (congrArg nI (cu_nt (f := fun j => cu_to T l (cu_f l (j / 2 ^ l) (j % 2 ^ l))) (ef.trans e)).symm))))
end
section
theorem i_vc_touched {k : Nat} {u : SX} {v : SY} (I : i_Rel k u v) (hk : k + 5 ≤ 2560) (v1 : Int32) (v2 : Int32) : wpX_touched (fun r => wpY_touched (fun r' => r' = r ∧ i_Rel (k + 5) u v) v v1 v2) u v1 v2 := by
  have J := i_up I
  obtain ⟨a, b⟩ := u
  obtain ⟨A, B, C, D⟩ := v
  obtain ⟨S, hH, hp, hN, hP, hM⟩ := I
  unfold wpX_touched wpY_touched
  refine cu_xis ?_
  cases h : cu_is v1 with
  | false => exact br_t rfl (cu_yis (by rw [h]; exact br_t rfl ⟨rfl, J⟩))
  | true =>
    refine br_f (by decide) ?_
    by_cases h0 : v2 < 0
    · exact br_t h0 (cu_yis (by rw [h]; exact br_f (by decide) (br_t h0 ⟨rfl, J⟩)))
    by_cases h4 : v2 ≤ 4
    · obtain ⟨l, hl, rfl⟩ := nI_of2 (M := 4) (n := 4) (by decide) h0 h4
      obtain ⟨s, hs, rfl⟩ := cu_isT h
      have hl5 : l < 5 := by omega
      refine br_f h0 (br_t h4 (cu_sl hl5 (nm_r (cu_sh4 l hl5).1 (cu_xtouch hs hl5 (fun n hn => hH s n hs hn) (cu_yis ?_)))))
      rw [h]
      exact br_f (by decide) (br_f h0 (br_t h4 (nm_r (cu_shl l hl5).1 (cu_ytouch hs hl5 (fun c hc => hM s c hs hc) ⟨rfl, J⟩))))
    · exact br_f h0 (br_f h4 (cu_yis (by rw [h]; exact br_f (by decide) (br_f h0 (br_f h4 ⟨rfl, J⟩)))))
end
