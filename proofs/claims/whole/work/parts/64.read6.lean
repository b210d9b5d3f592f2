theorem readLoop_X {s : Nat} (hs : s = 4 ∨ s = 13) {t z : Nat} (ht : t < 4) (hz : z ≤ 60) {f : Nat → Int32} : ∀ k fu p a b V tn M, SF M → Rs s a b V M → mI M (51 + 2 * t) 1 = nI z → mI M (52 + 2 * t) = f → 1 ≤ k → z < p + k → k ≤ fu → tn ≤ p → p ≤ z + 4 → ∃ M', f_X2_readFrom_14 fu s (51 + 2 * t) (nI p) (nI tn) M = some ((prs f z k p a b V).1, M') ∧ FrS s M M' ∧ Rs s (prs f z k p a b V).2.1 (prs f z k p a b V).2.2.1 (prs f z k p a b V).2.2.2 M' := by
  intro k
  induction k with
  | zero => intro fu p a b V tn M _ _ _ _ h1; omega
  | succ k ih =>
    intro fu p a b V tn M hS hR hsz hf _ hzp hfu htn hp
    obtain ⟨fu, rfl⟩ : ∃ g, fu = g + 1 := ⟨fu - 1, by omega⟩
    obtain ⟨-, k1, g1, k2, l2⟩ := textF hS ht
    have hend : z ≤ p → ∃ M', f_X2_readFrom_77 s (51 + 2 * t) M = some ((if 0 < b then -9 else nI z : Int32), M') ∧ FrS s M M' ∧ Rs s a b V M' := by
      intro _
      refine ⟨M, ?_, ⟨hS, rfl, rfl, fun x _ => rfl⟩, hR⟩
      unfold f_X2_readFrom_77
      simp only [rollF hS hs, gI_k, hR.2.1.2, Option.bind_some]
      have hb6 := hR.1.2
      by_cases c : 0 < b
      · rw [if_neg (nI_nle c (by omega)), if_pos c]
      · have : b = 0 := by omega
        subst this
        rw [if_pos (show nI 0 ≤ 0 from Int32.le_refl _), gI_k k1, hsz, Option.bind_some, if_neg c]
    simp only [f_X2_readFrom_14, prs]
    by_cases c0 : z ≤ p
    · rw [if_pos c0]
      obtain ⟨M', q1, q2, q3⟩ := hend c0
      by_cases c60 : (60 : Int32) ≤ nI tn
      · rw [if_pos c60]; exact ⟨M', q1, q2, q3⟩
      · rw [if_neg c60, gI_k k1, hsz, Option.bind_some, if_pos (nI_le c0 (by omega))]; exact ⟨M', q1, q2, q3⟩
    · rw [if_neg c0, if_neg (show ¬ (60 : Int32) ≤ nI tn from nI_ge (b := 60) (by omega) (by decide)), gI_k k1, hsz, Option.bind_some, if_neg (nI_ge (by omega) (by omega)), signAt_X hS ht hz hsz (by omega), Option.bind_some, hf]
      by_cases c1 : sgn f z p = 32
      · rw [if_pos c1, if_pos c1, nI_1, nI_1]
        exact ih fu (p + 1) a b V (tn + 1) M hS hR hsz hf (by omega) (by omega) (by omega) (by omega) (by omega)
      · rw [if_neg c1, if_neg c1, faultOfItem_X hS hs hR.1.1 hR.1.2 hR.2.1.1 hR.2.1.2 ht hz hsz (by omega), Option.bind_some, hf]
        by_cases c2 : itf f z p a b = -9
        · rw [if_pos c2, if_pos c2]
          have hmay : may (sgn f z p) a b = true := by
            by_cases q : may (sgn f z p) a b = true
            · exact q
            · unfold itf at c2; rw [if_neg q] at c2; exact absurd c2 (n9 (by omega))
          unfold itf at c2
          rw [if_pos hmay] at c2
          unfold f_X2_takeItem
          rw [if_pos (rollF hS hs).1, signAt_X hS ht hz hsz (by omega), Option.bind_some, hf]
          by_cases c3 : sgn f z p = 111
          · rw [if_pos c3] at c2
            rw [if_pos c3, if_pos c3]
            unfold may at hmay
            rw [if_pos c3] at hmay
            simp only [Bool.and_eq_true, decide_eq_true_eq] at hmay
            have d1 : 0 ≤ fig f z (p + 1) := by
              by_cases q : 0 ≤ fig f z (p + 1)
              · exact q
              · rw [if_neg q] at c2; exact absurd c2 (n9 (by omega))
            rw [if_pos d1] at c2
            have d2 : 1 ≤ fig f z (p + 2) := by
              by_cases q : 1 ≤ fig f z (p + 2)
              · exact q
              · rw [if_neg q] at c2; exact absurd c2 (n9 (by omega))
            rw [if_pos d2] at c2
            have d3 : 0 ≤ fig f z (p + 3) := by
              by_cases q : 0 ≤ fig f z (p + 3)
              · exact q
              · rw [if_neg q] at c2; exact absurd c2 (n9 (by omega))
            have w1 := fig_n d1
            have d20 : 0 ≤ fig f z (p + 2) := Int32.le_trans (by decide) d2
            have w2 := fig_n d20
            have w3 := fig_n d3
            have w21 : 1 ≤ fgN f z (p + 2) := by
              rw [w2.1] at d2
              exact (nI_leI (a := 1) (by decide) (by omega)).mp d2
            obtain ⟨M1, q1, q2, q3⟩ := takeOrder_X hS hs hR hmay.2 ht hz hsz (p := p) (by omega) (by rw [hf]; exact w1.1) w1.2 (by rw [hf]; exact w2.1) w21 w2.2 (by rw [hf]; exact w3.1) w3.2
            rw [q1]
            simp only [Option.bind_some]
            rw [show nI p + 4 = nI (p + 4) from nI_add p 4, nI_1]
            obtain ⟨M2, y1, y2, y3⟩ := ih fu (p + 4) a (b + 1) _ (tn + 1) M1 q2.1 q3 (by rw [q2.2.2.2 _ (by omega)]; exact hsz) (by rw [q2.2.2.2 _ (by omega)]; exact hf) (by omega) (by omega) (by omega) (by omega) (by omega)
            exact ⟨M2, y1, q2.tr y2, y3⟩
          · rw [if_neg c3] at c2
            rw [if_neg c3, if_neg c3]
            unfold may at hmay
            rw [if_neg c3] at hmay
            simp only [Bool.and_eq_true, decide_eq_true_eq, Bool.not_eq_true', beq_eq_false_iff_ne, ne_eq] at hmay
            have d1 : 0 ≤ fig f z (p + 1) := by
              by_cases q : 0 ≤ fig f z (p + 1)
              · exact q
              · rw [if_neg q] at c2; exact absurd c2 (n9 (by omega))
            rw [if_pos d1] at c2
            have d2 : 0 ≤ fig f z (p + 2) := by
              by_cases q : 0 ≤ fig f z (p + 2)
              · exact q
              · rw [if_neg q] at c2; exact absurd c2 (n9 (by omega))
            have w1 := fig_n d1
            have w2 := fig_n d2
            have w0 := kl_n hmay.1.1
            have hb0 := hmay.1.2
            subst hb0
            obtain ⟨M1, q1, q2, q3⟩ := takeSigher_X hS hs hR hmay.2 ht hz hsz (p := p) (by omega) (by rw [hf]; exact w0.1) w0.2 (by rw [hf]; exact w1.1) w1.2 (by rw [hf]; exact w2.1) w2.2
            rw [q1]
            simp only [Option.bind_some]
            rw [show nI p + 3 = nI (p + 3) from nI_add p 3, nI_1]
            obtain ⟨M2, y1, y2, y3⟩ := ih fu (p + 3) (a + 1) 0 _ (tn + 1) M1 q2.1 q3 (by rw [q2.2.2.2 _ (by omega)]; exact hsz) (by rw [q2.2.2.2 _ (by omega)]; exact hf) (by omega) (by omega) (by omega) (by omega) (by omega)
            exact ⟨M2, y1, q2.tr y2, y3⟩
        · rw [if_neg c2, if_neg c2]
          exact ⟨M, rfl, ⟨hS, rfl, rfl, fun x _ => rfl⟩, hR⟩
