theorem pk_us {f : Nat → Int32} {k : Nat} {x : Int32} : upd f k x k = x := if_pos rfl
theorem pk_un {f : Nat → Int32} {k j : Nat} {x : Int32} (h : j ≠ k) : upd f k x j = f j := if_neg h
theorem pk_sub {a b : Nat} (h : b ≤ a) : nI a - nI b = nI (a - b) := by
  obtain ⟨c, rfl⟩ : ∃ c, a = c + b := ⟨a - b, by omega⟩
  rw [← nI_add, Int32.add_sub_cancel, Nat.add_sub_cancel]
theorem pk_mul (a b : Nat) : nI a * nI b = nI (a * b) := (Int32.ofNat_mul a b).symm
theorem pk_div {a d : Nat} (ha : a < 2 ^ 31) (h0 : 0 < d) (hd : d < 2 ^ 31) : nI a / nI d = nI (a / d) := by
  apply Int32.toInt_inj.mp
  rw [lg_idiv_nonneg (by rw [nI_toInt ha]; omega) (by rw [nI_toInt hd]; omega), nI_toInt ha, nI_toInt hd, nI_toInt (Nat.lt_of_le_of_lt (Nat.div_le_self a d) ha)]
  first | rfl | exact (Int.natCast_ediv _ _).symm
theorem pk_rem {a d : Nat} (ha : a < 2 ^ 31) (h0 : 0 < d) (hd : d < 2 ^ 31) : nI a - nI a / nI d * nI d = nI (a % d) := by
  rw [pk_div ha h0 hd, pk_mul, pk_sub (Nat.div_mul_le_self a d)]
  exact congrArg nI (by have := Nat.div_add_mod' a d; omega)
theorem pk_ix (x : Int32) {n : Nat} (hn : n < 2 ^ 31) : x < 0 ∨ nI n ≤ x ∨ ∃ j : Nat, j < n ∧ x = nI j := by
  by_cases h : x < 0
  · exact Or.inl h
  · obtain ⟨j, hj, rfl⟩ := nI_of h
    by_cases h2 : j < n
    · exact Or.inr (Or.inr ⟨j, h2, rfl⟩)
    · exact Or.inr (Or.inl (nI_le (by omega) hj))
theorem pk_le {x y : Int32} {A B : Prop} (a b : Nat) (f : a ≤ b → A) (g : b < a → B) (hx : x = nI a := by rfl) (hy : y = nI b := by rfl) (ha : a < 2 ^ 31 := by omega) (hb : b < 2 ^ 31 := by omega) : (x ≤ y → A) ∧ (¬ x ≤ y → B) := by
  subst hx hy
  rw [nI_leI ha hb]
  exact ⟨f, fun z => g (by omega)⟩
theorem pk_lt {x y : Int32} {A B : Prop} (a b : Nat) (f : a < b → A) (g : b ≤ a → B) (hx : x = nI a := by rfl) (hy : y = nI b := by rfl) (ha : a < 2 ^ 31 := by omega) (hb : b < 2 ^ 31 := by omega) : (x < y → A) ∧ (¬ x < y → B) := by
  subst hx hy
  rw [nI_ltI ha hb]
  exact ⟨f, fun z => g (by omega)⟩
theorem pk_eq {x y : Int32} {A B : Prop} (a b : Nat) (f : a = b → A) (g : a ≠ b → B) (hx : x = nI a := by rfl) (hy : y = nI b := by rfl) (ha : a < 2 ^ 31 := by omega) (hb : b < 2 ^ 31 := by omega) : (x = y → A) ∧ (¬ x = y → B) := by
  subst hx hy
  rw [nI_eq ha hb]
  exact ⟨f, g⟩
theorem pk_in {x : Int32} (n N : Nat) (h : n < N) (hx : x = nI n := by rfl) (hN : N < 2 ^ 31 := by omega) : vp_in x N := by
  subst hx
  exact vp_in_nI h hN
theorem pk_cl {x : Int32} (n : Nat) (hx : x = nI n := by rfl) (h : n < 2 ^ 31 := by omega) : x.toNatClampNeg = n := by
  subst hx
  exact nI_clamp h
/-- a boolean as it is stored -/
def cu_b (x : Bool) : Int32 := if x then 1 else 0
theorem cu_b0 {x : Bool} (h : x = false) : cu_b x = 0 := by rw [h]; rfl
theorem cu_b1 {x : Bool} (h : x = true) : ¬ cu_b x = 0 := by rw [h]; decide
theorem cu_nar (x : Bool) : vp_nar .boolean (cu_b x) = cu_b x := by cases x <;> rfl
theorem cu_nar0 : vp_nar .boolean 0 = cu_b false := rfl
theorem cu_nar1 : vp_nar .boolean 1 = cu_b true := rfl
/-- the curve number of cell c, the cell of curve number n: tables, a byte each -/
def cu_q (c : Nat) : Nat := (21545167722872558231979247679837972729682062819497595327110723488655687014187674845038953427632747796173202759182395933508872770667168069313494568756521860675655747052782741094487855649206100838345461708518251446993562580594685493853975319556215827999418662194850690990897633840329966815310542076803918817306288115658611017922614414558824683103263652732987202050269811340900126196011595750007285587683872384850907904838296336439497181391296067830847539918472282135880667708982310087503830218659408559573969992626545155103997525809959332700331041836229673174860007264622589627878342886786646011791856765814262148104960 >>> (8 * c)) % 256
def cu_p (n : Nat) : Nat := (30408086934043192961649600209740466757075828876649164152734291922043026255382171430763587917472778751212558110172610720360605928808483804574973559385916208954525609215903837843000151112805881771489437874639450031181997677015289019670362186065028377478773792424561081505218425976800327622956637360561298459737444249059153179105563704272894159079162627019585989641386086566953776209356661773582209630354820041857348786390659715727480168923321124592454724163918045470569946455690079650625421932374993621850579539901015918063288112315372304324238372392439748899316666120169663455573880476639180706639021436234982231183360 >>> (8 * n)) % 256
theorem cu_qlt (c : Nat) : cu_q c < 256 := Nat.mod_lt _ (by decide)
theorem cu_plt (n : Nat) : cu_p n < 256 := Nat.mod_lt _ (by decide)
theorem cu_pq : ∀ c, c < 256 → cu_p (cu_q c) = c := by decide +kernel
theorem cu_qp : ∀ n, n < 256 → cu_q (cu_p n) = n := by decide +kernel
/-- side and length of a square of level l -/
def cu_w (l : Nat) : Nat := 2 ^ (4 - l)
def cu_L (l : Nat) : Nat := 4 ^ (4 - l)
theorem cu_wpos (l : Nat) : 0 < cu_w l := Nat.two_pow_pos _
theorem cu_Lpos (l : Nat) : 0 < cu_L l := Nat.pow_pos (by decide)
theorem cu_gA : ∀ l, l < 5 → ∀ n, n < 256 → cu_q (16 * (cu_p n / 16 / cu_w l * cu_w l) + cu_p n % 16 / cu_w l * cu_w l) / cu_L l = n / cu_L l := by decide +kernel
theorem cu_gB : ∀ l, l < 5 → ∀ n, n < 256 → cu_p (n / cu_L l * cu_L l) / 16 / cu_w l = cu_p n / 16 / cu_w l ∧ cu_p (n / cu_L l * cu_L l) % 16 / cu_w l = cu_p n % 16 / cu_w l := by decide +kernel
theorem cu_gC : ∀ l, l < 5 → ∀ a, a < 2 ^ l → ∀ b, b < 2 ^ l → 16 * (a * cu_w l) + b * cu_w l < 256 ∧ (16 * (a * cu_w l) + b * cu_w l) / 16 / cu_w l = a ∧ (16 * (a * cu_w l) + b * cu_w l) % 16 / cu_w l = b := by decide +kernel
/-- the square (l, a, b) as a number of its level: where it stands along the curve -/
def cu_f (l a b : Nat) : Nat := cu_q (16 * (a * cu_w l) + b * cu_w l) / cu_L l
theorem cu_geo {l c a b : Nat} (hl : l < 5) (hc : c < 256) (ha : a < 2 ^ l) (hb : b < 2 ^ l) : (c / 16 / cu_w l = a ∧ c % 16 / cu_w l = b) ↔ cu_q c / cu_L l = cu_f l a b := by
  constructor
  · rintro ⟨rfl, rfl⟩
    have h := cu_gA l hl (cu_q c) (cu_qlt c)
    rw [cu_pq c hc] at h
    exact h.symm
  · intro h
    obtain ⟨h1, h2, h3⟩ := cu_gC l hl a ha b hb
    have hA := cu_gB l hl (cu_q c) (cu_qlt c)
    have hB := cu_gB l hl (cu_q (16 * (a * cu_w l) + b * cu_w l)) (cu_qlt _)
    rw [cu_pq c hc] at hA
    rw [cu_pq _ h1] at hB
    unfold cu_f at h
    rw [h] at hA
    rw [h2, h3] at hB
    exact ⟨hA.1.symm.trans hB.1, hA.2.symm.trans hB.2⟩
theorem cu_ab : ∀ l, l < 5 → ∀ c, c < 256 → c / 16 / cu_w l < 2 ^ l ∧ c % 16 / cu_w l < 2 ^ l := by decide +kernel
theorem cu_flt : ∀ l, l < 5 → ∀ a, a < 2 ^ l → ∀ b, b < 2 ^ l → (cu_f l a b + 1) * cu_L l ≤ 256 := by decide +kernel
/-- how many of the first i are so -/
def cu_n (f : Nat → Bool) : Nat → Nat
  | 0 => 0
  | i + 1 => cu_n f i + if f i then 1 else 0
theorem cu_nle (f : Nat → Bool) (i : Nat) : cu_n f i ≤ i := by
  induction i with
  | zero => exact Nat.le_refl 0
  | succ i ih => unfold cu_n; split <;> omega
theorem cu_nt {f : Nat → Bool} {i : Nat} (h : f i = true) : cu_n f (i + 1) = cu_n f i + 1 := by rw [cu_n, if_pos h]
theorem cu_nf {f : Nat → Bool} {i : Nat} (h : f i = false) : cu_n f (i + 1) = cu_n f i := by rw [cu_n, if_neg (by rw [h]; decide)]; rfl
theorem cu_ncount (f : Nat → Bool) (i : Nat) : cu_n f i = (List.range i).countP f := by
  induction i with
  | zero => rfl
  | succ i ih =>
    rw [List.range_succ, List.countP_append, cu_n, ih]
    cases h : f i <;> simp [h]
theorem cu_nperm {g : Nat → Nat} {N : Nat} (h : ((List.range N).map g).Perm (List.range N)) (f : Nat → Bool) : cu_n (fun i => f (g i)) N = cu_n f N := by
  rw [cu_ncount, cu_ncount, ← h.countP_eq f, List.countP_map]
  rfl
theorem cu_permq : ((List.range 256).map cu_q).Perm (List.range 256) := List.isPerm_iff.mp (by decide +kernel)
theorem cu_nq (f : Nat → Bool) : cu_n (fun c => f (cu_q c)) 256 = cu_n f 256 := cu_nperm cu_permq f
theorem cu_ncongr {f g : Nat → Bool} {N : Nat} (h : ∀ i, i < N → f i = g i) : cu_n f N = cu_n g N := by
  induction N with
  | zero => rfl
  | succ N ih => rw [cu_n, cu_n, ih (fun i hi => h i (by omega)), h N (by omega)]
theorem cu_nall {f : Nat → Bool} {N : Nat} : cu_n f N = N ↔ ∀ i, i < N → f i = true := by
  induction N with
  | zero => exact ⟨fun _ i hi => absurd hi (Nat.not_lt_zero i), fun _ => rfl⟩
  | succ N ih =>
    constructor
    · intro h i hi
      have hle := cu_nle f N
      cases hN : f N with
      | false => rw [cu_nf hN] at h; omega
      | true =>
        rw [cu_nt hN] at h
        rcases Nat.lt_or_ge i N with z | z
        · exact ih.mp (by omega) i z
        · have : i = N := by omega
          rw [this]; exact hN
    · intro h
      rw [cu_nt (h N (by omega)), ih.mpr (fun i hi => h i (by omega))]
theorem cu_npos {f : Nat → Bool} {N : Nat} : 0 < cu_n f N ↔ ∃ i, i < N ∧ f i = true := by
  induction N with
  | zero => exact ⟨fun h => absurd h (Nat.lt_irrefl 0), fun ⟨i, hi, _⟩ => absurd hi (Nat.not_lt_zero i)⟩
  | succ N ih =>
    cases hN : f N with
    | false =>
      rw [cu_nf hN, ih]
      constructor
      · rintro ⟨i, hi, h⟩; exact ⟨i, by omega, h⟩
      · rintro ⟨i, hi, h⟩
        rcases Nat.lt_or_ge i N with z | z
        · exact ⟨i, z, h⟩
        · have : i = N := by omega
          rw [this, hN] at h
          exact absurd h (by decide)
    | true =>
      rw [cu_nt hN]
      exact ⟨fun _ => ⟨N, by omega, hN⟩, fun _ => by omega⟩
/-- indices -/
theorem cu_ix (s n : Nat) : nI s * 256 + nI n = nI (256 * s + n) := by
  rw [show (256 : Int32) = nI 256 from rfl, pk_mul, nI_add, Nat.mul_comm]
theorem cu_iy (s n : Nat) : 256 * nI s + nI n = nI (256 * s + n) := by
  rw [show (256 : Int32) = nI 256 from rfl, pk_mul, nI_add]
theorem cu_ix3 (s f n : Nat) : nI s * 256 + nI f + nI n = nI (256 * s + (f + n)) := by
  rw [cu_ix, nI_add, Nat.add_assoc]
theorem cu_id (f n : Nat) : 1024 + nI f + nI n = nI (1024 + (f + n)) := by
  rw [show (1024 : Int32) = nI 1024 from rfl, nI_add, nI_add, Nat.add_assoc]
theorem cu_id1 (n : Nat) : 1024 + nI n = nI (1024 + n) := by
  rw [show (1024 : Int32) = nI 1024 from rfl, nI_add]
theorem cu_xy (x y : Nat) : 16 * nI x + nI y = nI (16 * x + y) := by
  rw [show (16 : Int32) = nI 16 from rfl, pk_mul, nI_add]
theorem cu_xy3 (s x y : Nat) : 256 * nI s + 16 * nI x + nI y = nI (256 * s + (16 * x + y)) := by
  rw [show (256 : Int32) = nI 256 from rfl, show (16 : Int32) = nI 16 from rfl, pk_mul, pk_mul, nI_add, nI_add, Nat.add_assoc]
/-- a value read at an index that is a number -/
theorem cu_at {a : Nat → Int32} {x : Int32} {v : Int32} (n : Nat) (hx : x = nI n) (h : n < 2 ^ 31) (e : a n = v) : a x.toNatClampNeg = v := by
  rw [pk_cl n hx h]; exact e
