theorem i_vc_touched {k : Nat} {u : SX} {v : SY} (I : i_Rel k u v) (hk : k + 5 ≤ 2560) (v1 : Int32) (v2 : Int32) : wpX_touched (fun r => wpY_touched (fun r' => r' = r ∧ i_Rel (k + 5) u v) v v1 v2) u v1 v2 := by
  have J := i_up I
  obtain ⟨a, b⟩ := u
  obtain ⟨A, B, C, D⟩ := v
  obtain ⟨S, hH, hp, hN, hP, hM⟩ := I
  unfold wpX_touched wpY_touched
  refine cu_xis ?_
  cases h : cu_is v1 with
  | false => exact br_t rfl (cu_yis (by rw [h]; exact br_t rfl ⟨rfl, J⟩))
  | true =>
    refine br_f (by decide) ?_
    by_cases h0 : v2 < 0
    · exact br_t h0 (cu_yis (by rw [h]; exact br_f (by decide) (br_t h0 ⟨rfl, J⟩)))
    by_cases h4 : v2 ≤ 4
    · obtain ⟨l, hl, rfl⟩ := nI_of2 (M := 4) (n := 4) (by decide) h0 h4
      obtain ⟨s, hs, rfl⟩ := cu_isT h
      have hl5 : l < 5 := by omega
      refine br_f h0 (br_t h4 (cu_sl hl5 (nm_r (cu_sh4 l hl5).1 (cu_xtouch hs hl5 (fun n hn => hH s n hs hn) (cu_yis ?_)))))
      rw [h]
      exact br_f (by decide) (br_f h0 (br_t h4 (nm_r (cu_shl l hl5).1 (cu_ytouch hs hl5 (fun c hc => hM s c hs hc) ⟨rfl, J⟩))))
    · exact br_f h0 (br_f h4 (cu_yis (by rw [h]; exact br_f (by decide) (br_f h0 (br_f h4 ⟨rfl, J⟩)))))
