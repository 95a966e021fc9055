/-! Part 50: lies -/
theorem op_lies (N : Nat) (hN : 2000 < N) : Op (fun M => f_X6_lies N M) (fun M => f_X7_lies N M) := by
  intro M hR
  obtain ⟨n, w, M1, hn, h3, h55, hw, q1, q2, q3, q4, q5, q6, q7, q8⟩ := both (N := N) hR hN
  obtain ⟨M2, g1, g2, g3, g4, g5, g6⟩ := q8 M1 q3 KpR.rf
  obtain ⟨x, x1, x2⟩ := touch_same (N := N) (s := wf (szf M) w) hn hw q2 g2 q4 g4 q6 (wf_d _ _) rfl q5 g5 hN
  obtain ⟨sd, m, lx, ly, t1, t2⟩ := tb_ex q3
  obtain ⟨y, y1, y2⟩ := off_same (N := N) hn t1 (t2.kp (fun j => g6.1 36 j rfl)) q2 g2 (fun i hi => (q4 i hi).1) (fun i hi => (g4 i hi).1) q6 hN
  refine ⟨if y = -9 then (if x = -9 then 1 else 0) else 0, M1, M2, ?_, ?_, g3⟩
  · simp only [f_X6_lies]
    rw [h3, q1]
    simp only [bd, bd2, y1, f_X6_yes]
    by_cases c : y = -9
    · rw [if_pos c, if_pos c, x1]
      simp only []
      by_cases c2 : x = -9
      · rw [if_pos c2, if_pos c2]; rfl
      · rw [if_neg c2, if_neg c2]; rfl
    · rw [if_neg c, if_neg c]; rfl
  · simp only [f_X7_lies, f_X7_isLying]
    rw [g1]
    simp only [bd, bd2, y2]
    by_cases c : y = -9
    · rw [if_pos c, if_pos c, x2]
      simp only []
      by_cases c2 : x = -9
      · rw [if_pos c2, if_pos c2]; rfl
      · rw [if_neg c2, if_neg c2]; rfl
    · rw [if_neg c, if_neg c]; rfl
