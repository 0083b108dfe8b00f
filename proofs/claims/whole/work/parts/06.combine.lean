def cu_jn (h : Nat) (p q : Bool) : Bool := if h = 0 then p && q else if h = 1 then p || q else p && !q
theorem cu_xjn {post : Int32 → Prop} {h : Nat} {p q : Bool} (hh : h < 3) (hp : post (cu_b (cu_jn h p q))) : wpX_joined post (nI h) (cu_b p) (cu_b q) := by
  have h3 : h = 0 ∨ h = 1 ∨ h = 2 := by omega
  rcases h3 with rfl | rfl | rfl
  · refine br_t rfl ?_
    cases p
    · exact br_t rfl hp
    · cases q
      · exact br_f (by decide) (br_t rfl hp)
      · exact br_f (by decide) (br_f (by decide) hp)
  · refine br_f (by decide) (br_t rfl ?_)
    cases p
    · cases q
      · exact br_t rfl (br_t rfl hp)
      · exact br_t rfl (br_f (by decide) hp)
    · exact br_f (by decide) hp
  · refine br_f (by decide) (br_f (by decide) ?_)
    cases p
    · exact br_t rfl hp
    · cases q
      · exact br_f (by decide) (br_t rfl hp)
      · exact br_f (by decide) (br_f (by decide) hp)
theorem cu_xcomb {post : Int32 → SX → Prop} {a b : Nat → Int32} {d h s t : Nat} {S : Nat → Nat → Bool} (hd : d < 4) (hh : h < 3) (hs : s < 4) (ht : t < 4) (hH : cu_H S a)
    (T : Nat → Bool) (hT : T = fun n => cu_jn h (S s n) (S t n))
    (h1 : 40 < cu_st T 256 → ∀ a', cu_H S a' → post (-2) (a', b)) (h2 : cu_st T 256 ≤ 40 → ∀ a', cu_H (cu_put S d T) a' → post (nI (cu_n T 256)) (a', b)) : ∃ n, wX_combine_36 post (nI d) (nI h) (nI s) (nI t) n 0 a b := by
  refine loop_0 (fun n i a' => wX_combine_36 post (nI d) (nI h) (nI s) (nI t) n (nI i) a' b) (fun i a' => (∀ n, n < i → a' (1024 + n) = cu_b (T n)) ∧ cu_H S a') 256 a ⟨lt_0, hH⟩ ?_ ?_
  · rintro n a' ⟨g1, g2⟩
    exact br_t (by decide) (cu_keepX hd g2 g1 (fun z => h1 z a' g2) (fun z a2 hH2 => h2 z a2 hH2))
  · rintro n i a' hi ⟨g1, g2⟩ ih
    have va : a' (nI s * 256 + nI i).toNatClampNeg = cu_b (S s i) := cu_at _ (cu_ix s i) (by omega) (g2 s i hs hi)
    have vb : a' (nI t * 256 + nI i).toNatClampNeg = cu_b (S t i) := cu_at _ (cu_ix t i) (by omega) (g2 t i ht hi)
    refine br_f (nI_ge (b := 256) hi (by decide)) ⟨pk_in _ 1280 (by omega) (cu_ix s i), pk_in _ 1280 (by omega) (cu_ix t i), ?_⟩
    rw [va, vb]
    refine cu_xjn hh ⟨pk_in (1024 + i) 1280 (by omega) (cu_id1 i), ?_⟩
    refine nm_r (e' := upd a' (1024 + i) (cu_b (T i))) (by rw [cu_nar, pk_cl (1024 + i) (cu_id1 i) (by omega), hT]) (nm_r (nI_1 i) (ih _ ⟨lt_s (fun m hm => ?_) pk_us, fun s' m hs' hm => ?_⟩))
    · rw [pk_un (by omega)]; exact g1 m hm
    · rw [pk_un (by omega)]; exact g2 s' m hs' hm
theorem cu_ycomb {post : Int32 → SY → Prop} {A B C D : Nat → Int32} {d h s t : Nat} {S : Nat → Nat → Bool} (hd : d < 4) (hh : h < 3) (hs : s < 4) (ht : t < 4) (hP : cu_P B) (hM : cu_M S C)
    (T : Nat → Bool) (hT : T = fun n => cu_jn h (S s n) (S t n))
    (h1 : 40 < cu_st T 256 → ∀ D', post (-2) (A, B, C, D')) (h2 : cu_st T 256 ≤ 40 → ∀ C' D', cu_M (cu_put S d T) C' → post (nI (cu_n T 256)) (A, B, C', D')) : ∃ n, wY_combine_39 post (nI d) (nI h) (nI s) (nI t) n 0 A B C D := by
  refine loop_0 (fun n i D' => wY_combine_39 post (nI d) (nI h) (nI s) (nI t) n (nI i) A B C D') (fun i D' => ∀ c, c < i → D' c = cu_b (T (cu_q c))) 256 D lt_0 ?_ ?_
  · intro n D' g
    exact br_t (by decide) (cu_keepY hd hP hM g (fun z => h1 z D') (fun z C' hC' => h2 z C' D' hC'))
  · intro n i D' hi g ih
    have va : C (256 * nI s + nI i).toNatClampNeg = cu_b (S s (cu_q i)) := cu_at _ (cu_iy s i) (by omega) (hM s i hs hi)
    have vb : C (256 * nI t + nI i).toNatClampNeg = cu_b (S t (cu_q i)) := cu_at _ (cu_iy t i) (by omega) (hM t i ht hi)
    have leaf : ∀ r : Bool, cu_jn h (S s (cu_q i)) (S t (cu_q i)) = r → vp_in (nI i) 256 ∧ ∀ D2 : Nat → Int32, D2 = upd D' (nI i).toNatClampNeg (vp_nar .boolean (cu_b r)) → ∀ x : Int32, x = nI i + 1 → wY_combine_39 post (nI d) (nI h) (nI s) (nI t) n x A B C D2 := by
      intro r er
      refine ⟨vp_in_nI hi (by decide), nm_r (e' := upd D' i (cu_b (T (cu_q i)))) (by rw [cu_nar, nI_clamp (by omega), hT, ← er]) (nm_r (nI_1 i) (ih _ (lt_s (fun c hc => ?_) pk_us)))⟩
      rw [pk_un (by omega)]; exact g c hc
    refine br_f (nI_ge (b := 256) hi (by decide)) ⟨pk_in _ 1024 (by omega) (cu_iy s i), nm_r va ⟨pk_in _ 1024 (by omega) (cu_iy t i), nm_r vb ?_⟩⟩
    have h3 : h = 0 ∨ h = 1 ∨ h = 2 := by omega
    rcases h3 with rfl | rfl | rfl
    · refine br_t rfl ?_
      cases hp : S s (cu_q i) with
      | false => exact br_t rfl (leaf false (by rw [hp]; rfl))
      | true => cases hq : S t (cu_q i) with
        | false => exact br_f (by decide) (br_t rfl (leaf false (by rw [hp, hq]; rfl)))
        | true => exact br_f (by decide) (br_f (by decide) (leaf true (by rw [hp, hq]; rfl)))
    · refine br_f (by decide) (br_t rfl ?_)
      cases hp : S s (cu_q i) with
      | false => cases hq : S t (cu_q i) with
        | false => exact br_t rfl (br_t rfl (leaf false (by rw [hp, hq]; rfl)))
        | true => exact br_t rfl (br_f (by decide) (leaf true (by rw [hp, hq]; rfl)))
      | true => exact br_f (by decide) (leaf true (by rw [hp]; rfl))
    · refine br_f (by decide) (br_f (by decide) ?_)
      cases hp : S s (cu_q i) with
      | false => exact br_t rfl (leaf false (by rw [hp]; rfl))
      | true => cases hq : S t (cu_q i) with
        | false => exact br_f (by decide) (br_t rfl (leaf true (by rw [hp, hq]; rfl)))
        | true => exact br_f (by decide) (br_f (by decide) (leaf false (by rw [hp, hq]; rfl)))
theorem i_vc_combine {k : Nat} {u : SX} {v : SY} (I : i_Rel k u v) (hk : k + 5 ≤ 2560) (v1 : Int32) (v2 : Int32) (v3 : Int32) (v4 : Int32) : wpX_combine (fun r u' => wpY_combine (fun r' v' => r' = r ∧ i_Rel (k + 5) u' v') v v1 v2 v3 v4) u v1 v2 v3 v4 := by
  have J := i_up I
  obtain ⟨a, b⟩ := u
  obtain ⟨A, B, C, D⟩ := v
  obtain ⟨S, hH, hp, hN, hP, hM⟩ := I
  unfold wpX_combine wpY_combine
  refine cu_xis ?_
  cases h1 : cu_is v1 with
  | false => exact br_t rfl (cu_yis (by rw [h1]; exact br_t rfl ⟨rfl, J⟩))
  | true =>
  refine br_f (by decide) (cu_xis ?_)
  cases h3 : cu_is v3 with
  | false => exact br_t rfl (cu_yis (by rw [h1]; exact br_f (by decide) (cu_yis (by rw [h3]; exact br_t rfl ⟨rfl, J⟩))))
  | true =>
  refine br_f (by decide) (cu_xis ?_)
  cases h4 : cu_is v4 with
  | false => exact br_t rfl (cu_yis (by rw [h1]; exact br_f (by decide) (cu_yis (by rw [h3]; exact br_f (by decide) (cu_yis (by rw [h4]; exact br_t rfl ⟨rfl, J⟩))))))
  | true =>
  refine br_f (by decide) ?_
  by_cases n2 : v2 < 0
  · exact br_t n2 (cu_yis (by rw [h1]; exact br_f (by decide) (cu_yis (by rw [h3]; exact br_f (by decide) (cu_yis (by rw [h4]; exact br_f (by decide) (br_t n2 ⟨rfl, J⟩)))))))
  by_cases m2 : v2 ≤ 2
  · obtain ⟨h, hh, rfl⟩ := nI_of2 (M := 2) (n := 2) (by decide) n2 m2
    obtain ⟨d, hd, rfl⟩ := cu_isT h1
    obtain ⟨s, hs, rfl⟩ := cu_isT h3
    obtain ⟨t, ht, rfl⟩ := cu_isT h4
    refine br_f n2 (br_t m2 (cu_xcomb hd (by omega) hs ht hH _ rfl (fun z a' hH' => cu_yis ?_) (fun z a' hH' => cu_yis ?_)))
    · rw [h1]
      refine br_f (by decide) (cu_yis ?_)
      rw [h3]
      refine br_f (by decide) (cu_yis ?_)
      rw [h4]
      exact br_f (by decide) (br_f n2 (br_t m2 (cu_ycomb hd (by omega) hs ht hP hM _ rfl (fun _ D' => ⟨rfl, ⟨S, hH', hp, hN, hP, hM⟩⟩) (fun y => absurd y (by omega)))))
    · rw [h1]
      refine br_f (by decide) (cu_yis ?_)
      rw [h3]
      refine br_f (by decide) (cu_yis ?_)
      rw [h4]
      exact br_f (by decide) (br_f n2 (br_t m2 (cu_ycomb hd (by omega) hs ht hP hM _ rfl (fun y => absurd y (by omega)) (fun _ C' D' hC' => ⟨rfl, ⟨_, hH', hp, hN, hP, hC'⟩⟩))))
  · exact br_f n2 (br_f m2 (cu_yis (by rw [h1]; exact br_f (by decide) (cu_yis (by rw [h3]; exact br_f (by decide) (cu_yis (by rw [h4]; exact br_f (by decide) (br_f n2 (br_f m2 ⟨rfl, J⟩)))))))))
