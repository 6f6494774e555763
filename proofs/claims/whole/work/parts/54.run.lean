set_option maxHeartbeats 4000000 in
theorem X_runl {S env : Nat → Int32} {len to : Nat} (hlen : len ≤ 200) (hto : to ≤ len) (k : ow_S → Option (Int32 × ow_S)) : ∀ (n fuel at_ i : Nat) (st : List Int32) (y : Bool) (σ : ow_S), xM S env len st y σ → i + n = 200 → n < fuel → at_ ≤ 200 → st.length ≤ 40 →
    match xR S env to n at_ st y with
    | none => True
    | some none => ∃ σ', fX2_run_36_l16 k (nI to) fuel (nI at_) (nI i) σ = some (0, σ') ∧ xmq σ σ'
    | some (some (st', y')) => ∃ σ', fX2_run_36_l16 k (nI to) fuel (nI at_) (nI i) σ = k σ' ∧ xM S env len st' y' σ' ∧ xmq σ σ' := by
  intro n
  induction n with
  | zero =>
    intro fuel at_ i st y σ h hi hf hat hst
    obtain ⟨fuel, rfl⟩ : ∃ f, fuel = f + 1 := ⟨fuel - 1, by omega⟩
    unfold xR
    by_cases c : to ≤ at_
    · rw [if_pos c]
      refine ⟨σ, ?_, h, xmq.rf⟩
      unfold fX2_run_36_l16
      have : (200 : Int32) ≤ nI i := by rw [show (200 : Int32) = nI 200 from rfl, nI_leI (by decide) (by omega)]; omega
      rw [if_pos this]
    · rw [if_neg c]
      trivial
  | succ n ih =>
    intro fuel at_ i st y σ h hi hf hat hst
    obtain ⟨fuel, rfl⟩ : ∃ f, fuel = f + 1 := ⟨fuel - 1, by omega⟩
    have hi2 : ¬ (200 : Int32) ≤ nI i := by rw [show (200 : Int32) = nI 200 from rfl, nI_leI (by decide) (by omega)]; omega
    have e_to : (nI to ≤ nI at_) ↔ to ≤ at_ := nI_leI (by omega) (by omega)
    have H := h
    obtain ⟨h1, h2, h3, h4, h5, h6⟩ := h
    unfold xR
    by_cases c : to ≤ at_
    · rw [if_pos c]
      refine ⟨σ, ?_, H, xmq.rf⟩
      unfold fX2_run_36_l16
      rw [if_neg hi2, if_pos (e_to.mpr c)]
    · rw [if_neg c]
      have hs : fX1_stepAt_36 (nI at_) σ = some (S at_, σ) := by rw [X_stepAt h5 hlen (by omega), h6 at_ (by omega)]
      have step : fX2_run_36_l16 k (nI to) (fuel + 1) (nI at_) (nI i) σ = (if S at_ &&& 15 = 0 then (fX2_push (S at_ >>> (4 &&& 31)) σ).bind (fun x => fX2_run_36_l16 k (nI to) fuel (nI (at_ + 1)) (nI (i + 1)) x.2)
          else if S at_ &&& 15 = 1 then (if S at_ >>> (4 &&& 31) < 0 then (fX2_push 0 σ).bind (fun x => fX2_run_36_l16 k (nI to) fuel (nI (at_ + 1)) (nI (i + 1)) x.2) else if (26 : Int32) ≤ S at_ >>> (4 &&& 31) then (fX2_push 0 σ).bind (fun x => fX2_run_36_l16 k (nI to) fuel (nI (at_ + 1)) (nI (i + 1)) x.2) else if ow_in (S at_ >>> (4 &&& 31)) 26 = true then (fX2_push (σ.1 13 (S at_ >>> (4 &&& 31)).toNatClampNeg) σ).bind (fun x => fX2_run_36_l16 k (nI to) fuel (nI (at_ + 1)) (nI (i + 1)) x.2) else none)
          else if S at_ &&& 15 = 10 then (if σ.1 12 3 = 0 then fX2_run_36_l16 k (nI to) fuel (nI (at_ + 1)) (nI (i + 1)) (ow_setI σ 12 3 1) else fX2_run_36_l16 k (nI to) fuel (nI (at_ + 1)) (nI (i + 1)) (ow_setI σ 12 3 0))
          else if S at_ &&& 15 = 11 then (if σ.1 12 3 = 0 then fX2_run_36_l16 k (nI to) fuel (nI (at_ + 1)) (nI (i + 1)) σ else fX2_run_36_l16 k (nI to) fuel (S at_ >>> (4 &&& 31)) (nI (i + 1)) σ)
          else if S at_ &&& 15 = 12 then (if σ.1 12 3 = 0 then fX2_run_36_l16 k (nI to) fuel (S at_ >>> (4 &&& 31)) (nI (i + 1)) σ else fX2_run_36_l16 k (nI to) fuel (nI (at_ + 1)) (nI (i + 1)) σ)
          else (fX2_join (S at_ &&& 15) σ).bind (fun x => if x.1 = 0 then some (0, x.2) else fX2_run_36_l16 k (nI to) fuel (nI (at_ + 1)) (nI (i + 1)) x.2)) := by
        conv => lhs; unfold fX2_run_36_l16
        rw [if_neg hi2, if_neg (fun h => c (e_to.mp h))]
        simp only [ow_bd, hs, Option.bind_some, ow_lt, nI_1, is01_0, is01_1, if_true]
      rw [step]
      have hin : i + 1 + n = 200 := by omega
      by_cases d0 : S at_ &&& 15 = 0
      · simp only [if_pos d0]
        by_cases hl : st.length < 40
        · simp only [if_pos hl]
          obtain ⟨σ', g1, g2, g3⟩ := X_push H hl (S at_ >>> (4 &&& 31))
          rw [g1]
          have := ih fuel (at_ + 1) (i + 1) _ y σ' g2 hin (by omega) (by omega) (by simp only [List.length_cons]; omega)
          revert this
          cases xR S env to n (at_ + 1) (S at_ >>> (4 &&& 31) :: st) y with
          | none => intro _; trivial
          | some z =>
            cases z with
            | none => rintro ⟨σ2, q1, q2⟩; exact ⟨σ2, q1, g3.tr q2⟩
            | some z => rintro ⟨σ2, q1, q2, q3⟩; exact ⟨σ2, q1, q2, g3.tr q3⟩
        · simp only [if_neg hl]
      · simp only [if_neg d0]
        by_cases d1 : S at_ &&& 15 = 1
        · simp only [if_pos d1]
          by_cases hl : st.length < 40 ∧ inR 0 25 (S at_ >>> (4 &&& 31)) = true
          · simp only [if_pos hl]
            obtain ⟨hl, hm⟩ := hl
            obtain ⟨m, hm1, hm2⟩ := inR_nI (b := 25) (by decide) hm
            rw [hm2]
            have m1 : ¬ nI m < 0 := nI_pos (by omega)
            have m2 : ¬ (26 : Int32) ≤ nI m := by rw [show (26 : Int32) = nI 26 from rfl, nI_leI (by decide) (by omega)]; omega
            rw [if_neg m1, if_neg m2, if_pos (ow_in_nI (by omega) (by decide)), nI_clamp (by omega), h4 m (by omega)]
            obtain ⟨σ', g1, g2, g3⟩ := X_push H hl (env m)
            rw [g1]
            have := ih fuel (at_ + 1) (i + 1) _ y σ' g2 hin (by omega) (by omega) (by simp only [List.length_cons]; omega)
            revert this
            cases xR S env to n (at_ + 1) (env m :: st) y with
            | none => intro _; trivial
            | some z =>
              cases z with
              | none => rintro ⟨σ2, q1, q2⟩; exact ⟨σ2, q1, g3.tr q2⟩
              | some z => rintro ⟨σ2, q1, q2, q3⟩; exact ⟨σ2, q1, q2, g3.tr q3⟩
          · simp only [if_neg hl]
        · simp only [if_neg d1]
          by_cases d10 : S at_ &&& 15 = 10
          · simp only [if_pos d10]
            simp only [h2, bi_eq0]
            have hM : ∀ z : Bool, xM S env len st z (ow_setI σ 12 3 (bi z)) := fun z => ⟨by simp [gI, h1], by simp [gI], by rw [gIc _ _ _ _ _ (by decide)]; exact h3, fun j hj => by rw [gIc _ _ _ _ _ (by decide)]; exact h4 j hj, by simp [gI, h5], fun j hj => by rw [gIc _ _ _ _ _ (by decide)]; exact h6 j hj⟩
            have hq : (if y = false then fX2_run_36_l16 k (nI to) fuel (nI (at_ + 1)) (nI (i + 1)) (ow_setI σ 12 3 1) else fX2_run_36_l16 k (nI to) fuel (nI (at_ + 1)) (nI (i + 1)) (ow_setI σ 12 3 0)) = fX2_run_36_l16 k (nI to) fuel (nI (at_ + 1)) (nI (i + 1)) (ow_setI σ 12 3 (bi (!y))) := by cases y <;> rfl
            rw [hq]
            have := ih fuel (at_ + 1) (i + 1) st (!y) _ (hM (!y)) hin (by omega) (by omega) hst
            revert this
            cases xR S env to n (at_ + 1) st (!y) with
            | none => intro _; trivial
            | some z =>
              cases z with
              | none => rintro ⟨σ2, q1, q2⟩; exact ⟨σ2, q1, xmq_yes.tr q2⟩
              | some z => rintro ⟨σ2, q1, q2, q3⟩; exact ⟨σ2, q1, q2, xmq_yes.tr q3⟩
          · simp only [if_neg d10]
            by_cases d11 : S at_ &&& 15 = 11
            · simp only [if_pos d11]
              by_cases hm : inR 0 200 (S at_ >>> (4 &&& 31)) = true
              · simp only [if_pos hm]
                obtain ⟨m, hm1, hm2⟩ := inR_nI (b := 200) (by decide) hm
                rw [hm2, nI_clamp (by omega)]
                simp only [h2, bi_eq0]
                cases y with
                | false => exact ih fuel (at_ + 1) (i + 1) st false σ H hin (by omega) (by omega) hst
                | true => exact ih fuel m (i + 1) st true σ H hin (by omega) (by omega) hst
              · simp only [if_neg hm]
            · simp only [if_neg d11]
              by_cases d12 : S at_ &&& 15 = 12
              · simp only [if_pos d12]
                by_cases hm : inR 0 200 (S at_ >>> (4 &&& 31)) = true
                · simp only [if_pos hm]
                  obtain ⟨m, hm1, hm2⟩ := inR_nI (b := 200) (by decide) hm
                  rw [hm2, nI_clamp (by omega)]
                  simp only [h2, bi_eq0]
                  cases y with
                  | false => exact ih fuel m (i + 1) st false σ H hin (by omega) (by omega) hst
                  | true => exact ih fuel (at_ + 1) (i + 1) st true σ H hin (by omega) (by omega) hst
                · simp only [if_neg hm]
              · simp only [if_neg d12]
                match st, H, hst with
                | [], _, _ => trivial
                | [_], _, _ => trivial
                | b :: a :: r, H, hst =>
                  simp only [List.length_cons] at hst
                  by_cases hd : inR 2 9 (S at_ &&& 15) = true
                  · have hj := X_join H (by omega) hd
                    by_cases hz : b = 0 ∧ (S at_ &&& 15 = 5 ∨ S at_ &&& 15 = 6)
                    · rw [if_pos hz] at hj
                      simp only [if_pos hz]
                      rw [hj]
                      exact ⟨σ, rfl, xmq.rf⟩
                    · rw [if_neg hz] at hj
                      simp only [if_neg hz]
                      by_cases h26 : inR 2 6 (S at_ &&& 15) = true
                      · rw [if_pos h26] at hj
                        simp only [if_pos h26]
                        obtain ⟨σ', g1, g2, g3⟩ := hj
                        rw [g1]
                        have := ih fuel (at_ + 1) (i + 1) _ y σ' g2 hin (by omega) (by omega) (by simp only [List.length_cons]; omega)
                        revert this
                        cases xR S env to n (at_ + 1) (xJ (S at_ &&& 15) a b :: r) y with
                        | none => intro _; trivial
                        | some z =>
                          cases z with
                          | none => rintro ⟨σ2, q1, q2⟩; exact ⟨σ2, q1, g3.tr q2⟩
                          | some z => rintro ⟨σ2, q1, q2, q3⟩; exact ⟨σ2, q1, q2, g3.tr q3⟩
                      · rw [if_neg h26] at hj
                        simp only [if_neg h26]
                        obtain ⟨σ', g1, g2, g3⟩ := hj
                        rw [g1]
                        have h79 : inR 7 9 (S at_ &&& 15) = true := by
                          rw [inR_t] at hd ⊢
                          rw [inR_t] at h26
                          omega
                        simp only [if_pos h79]
                        have := ih fuel (at_ + 1) (i + 1) r (xY (S at_ &&& 15) a b) σ' g2 hin (by omega) (by omega) (by omega)
                        revert this
                        cases xR S env to n (at_ + 1) r (xY (S at_ &&& 15) a b) with
                        | none => intro _; trivial
                        | some z =>
                          cases z with
                          | none => rintro ⟨σ2, q1, q2⟩; exact ⟨σ2, q1, g3.tr q2⟩
                          | some z => rintro ⟨σ2, q1, q2, q3⟩; exact ⟨σ2, q1, q2, g3.tr q3⟩
                  · have h56 : ¬ (b = 0 ∧ (S at_ &&& 15 = 5 ∨ S at_ &&& 15 = 6)) := by
                      rintro ⟨-, h | h⟩ <;> rw [h] at hd <;> exact absurd hd (by decide)
                    have h26 : ¬ inR 2 6 (S at_ &&& 15) = true := by rw [inR_t] at hd ⊢; omega
                    have h79 : ¬ inR 7 9 (S at_ &&& 15) = true := by rw [inR_t] at hd ⊢; omega
                    simp only [if_neg h56, if_neg h26, if_neg h79]
