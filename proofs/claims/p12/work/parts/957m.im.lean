/-! the image of the reference -/
section XM
variable {lL : Nat} {h h' h2 : mq_H} {Q : Option Value → mq_H → Prop}
def x_cell (p : Nat) : Nat := if p = 0 ∨ p = 1 ∨ p = 106 then 59 else if p < 22 then 60 else if p < 34 then 61 + (p - 22) % 2 else if p < 106 then 63 + (p - 34) % 3 else if p < 407 then (if (p - 107) % 5 < 3 then 66 + (p - 107) % 5 else 67 + (p - 107) % 5) else if p < 587 then 69 else if p < 3467 then 72 + (p - 587) % 4 else if p < 3485 then 76 + (p - 3467) % 3 else if p < 3503 then 79 else if p < 3511 then 82 else if p < 4151 then 83 + (p - 3511) % 5 else 88 + (p - 4151) % 2
theorem x_pos_cs {a k p : Nat} (h : x_pos a k = some p) : (a = 59 ∧ k = 1 ∧ p = 0) ∨ (a = 59 ∧ k = 2 ∧ p = 1) ∨ (a = 59 ∧ k = 9 ∧ p = 106) ∨ (a = 60 ∧ k < 20 ∧ p = 2 + k) ∨ (a = 61 ∧ k < 6 ∧ p = 22 + 2 * k) ∨ (a = 62 ∧ k < 6 ∧ p = 23 + 2 * k) ∨ (a = 63 ∧ k < 24 ∧ p = 34 + 3 * k) ∨ (a = 64 ∧ k < 24 ∧ p = 35 + 3 * k) ∨ (a = 65 ∧ k < 24 ∧ p = 36 + 3 * k) ∨ (a = 66 ∧ k < 60 ∧ p = 107 + 5 * k) ∨ (a = 67 ∧ k < 60 ∧ p = 108 + 5 * k) ∨ (a = 68 ∧ k < 60 ∧ p = 109 + 5 * k) ∨ (a = 70 ∧ k < 60 ∧ p = 110 + 5 * k) ∨ (a = 71 ∧ k < 60 ∧ p = 111 + 5 * k) ∨ (a = 69 ∧ k < 180 ∧ p = 407 + k) ∨ (a = 72 ∧ k < 720 ∧ p = 587 + 4 * k) ∨ (a = 73 ∧ k < 720 ∧ p = 588 + 4 * k) ∨ (a = 74 ∧ k < 720 ∧ p = 589 + 4 * k) ∨ (a = 75 ∧ k < 720 ∧ p = 590 + 4 * k) ∨ (a = 76 ∧ k < 6 ∧ p = 3467 + 3 * k) ∨ (a = 77 ∧ k < 6 ∧ p = 3468 + 3 * k) ∨ (a = 78 ∧ k < 6 ∧ p = 3469 + 3 * k) ∨ (a = 79 ∧ k < 18 ∧ p = 3485 + k) ∨ (a = 82 ∧ k < 8 ∧ p = 3503 + k) ∨ (a = 83 ∧ k < 128 ∧ p = 3511 + 5 * k) ∨ (a = 84 ∧ k < 128 ∧ p = 3512 + 5 * k) ∨ (a = 85 ∧ k < 128 ∧ p = 3513 + 5 * k) ∨ (a = 86 ∧ k < 128 ∧ p = 3514 + 5 * k) ∨ (a = 87 ∧ k < 128 ∧ p = 3515 + 5 * k) ∨ (a = 88 ∧ k < 3200 ∧ p = 4151 + 2 * k) ∨ (a = 89 ∧ k < 3200 ∧ p = 4152 + 2 * k) := by
  by_cases e59 : a = 59
  · subst e59
    replace h : (if k = 1 then some 0 else if k = 2 then some 1 else if k = 9 then some 106 else none) = some p := h
    by_cases q1 : k = 1
    · rw [if_pos q1] at h; cases h; exact Or.inl (⟨rfl, q1, rfl⟩)
    · rw [if_neg q1] at h
      by_cases q2 : k = 2
      · rw [if_pos q2] at h; cases h; exact Or.inr (Or.inl (⟨rfl, q2, rfl⟩))
      · rw [if_neg q2] at h
        by_cases q3 : k = 9
        · rw [if_pos q3] at h; cases h; exact Or.inr (Or.inr (Or.inl (⟨rfl, q3, rfl⟩)))
        · rw [if_neg q3] at h; cases h
  by_cases e60 : a = 60
  · subst e60
    replace h : (if k < 20 then some (2 + k) else none) = some p := h
    by_cases q1 : k < 20
    · rw [if_pos q1] at h; cases h; exact Or.inr (Or.inr (Or.inr (Or.inl (⟨rfl, q1, rfl⟩))))
    · rw [if_neg q1] at h; cases h
  by_cases e61 : a = 61
  · subst e61
    replace h : (if k < 6 then some (22 + 2 * k) else none) = some p := h
    by_cases q1 : k < 6
    · rw [if_pos q1] at h; cases h; exact Or.inr (Or.inr (Or.inr (Or.inr (Or.inl (⟨rfl, q1, rfl⟩)))))
    · rw [if_neg q1] at h; cases h
  by_cases e62 : a = 62
  · subst e62
    replace h : (if k < 6 then some (23 + 2 * k) else none) = some p := h
    by_cases q1 : k < 6
    · rw [if_pos q1] at h; cases h; exact Or.inr (Or.inr (Or.inr (Or.inr (Or.inr (Or.inl (⟨rfl, q1, rfl⟩))))))
    · rw [if_neg q1] at h; cases h
  by_cases e63 : a = 63
  · subst e63
    replace h : (if k < 24 then some (34 + 3 * k) else none) = some p := h
    by_cases q1 : k < 24
    · rw [if_pos q1] at h; cases h; exact Or.inr (Or.inr (Or.inr (Or.inr (Or.inr (Or.inr (Or.inl (⟨rfl, q1, rfl⟩)))))))
    · rw [if_neg q1] at h; cases h
  by_cases e64 : a = 64
  · subst e64
    replace h : (if k < 24 then some (35 + 3 * k) else none) = some p := h
    by_cases q1 : k < 24
    · rw [if_pos q1] at h; cases h; exact Or.inr (Or.inr (Or.inr (Or.inr (Or.inr (Or.inr (Or.inr (Or.inl (⟨rfl, q1, rfl⟩))))))))
    · rw [if_neg q1] at h; cases h
  by_cases e65 : a = 65
  · subst e65
    replace h : (if k < 24 then some (36 + 3 * k) else none) = some p := h
    by_cases q1 : k < 24
    · rw [if_pos q1] at h; cases h; exact Or.inr (Or.inr (Or.inr (Or.inr (Or.inr (Or.inr (Or.inr (Or.inr (Or.inl (⟨rfl, q1, rfl⟩)))))))))
    · rw [if_neg q1] at h; cases h
  by_cases e66 : a = 66
  · subst e66
    replace h : (if k < 60 then some (107 + 5 * k) else none) = some p := h
    by_cases q1 : k < 60
    · rw [if_pos q1] at h; cases h; exact Or.inr (Or.inr (Or.inr (Or.inr (Or.inr (Or.inr (Or.inr (Or.inr (Or.inr (Or.inl (⟨rfl, q1, rfl⟩))))))))))
    · rw [if_neg q1] at h; cases h
  by_cases e67 : a = 67
  · subst e67
    replace h : (if k < 60 then some (108 + 5 * k) else none) = some p := h
    by_cases q1 : k < 60
    · rw [if_pos q1] at h; cases h; exact Or.inr (Or.inr (Or.inr (Or.inr (Or.inr (Or.inr (Or.inr (Or.inr (Or.inr (Or.inr (Or.inl (⟨rfl, q1, rfl⟩)))))))))))
    · rw [if_neg q1] at h; cases h
  by_cases e68 : a = 68
  · subst e68
    replace h : (if k < 60 then some (109 + 5 * k) else none) = some p := h
    by_cases q1 : k < 60
    · rw [if_pos q1] at h; cases h; exact Or.inr (Or.inr (Or.inr (Or.inr (Or.inr (Or.inr (Or.inr (Or.inr (Or.inr (Or.inr (Or.inr (Or.inl (⟨rfl, q1, rfl⟩))))))))))))
    · rw [if_neg q1] at h; cases h
  by_cases e70 : a = 70
  · subst e70
    replace h : (if k < 60 then some (110 + 5 * k) else none) = some p := h
    by_cases q1 : k < 60
    · rw [if_pos q1] at h; cases h; exact Or.inr (Or.inr (Or.inr (Or.inr (Or.inr (Or.inr (Or.inr (Or.inr (Or.inr (Or.inr (Or.inr (Or.inr (Or.inl (⟨rfl, q1, rfl⟩)))))))))))))
    · rw [if_neg q1] at h; cases h
  by_cases e71 : a = 71
  · subst e71
    replace h : (if k < 60 then some (111 + 5 * k) else none) = some p := h
    by_cases q1 : k < 60
    · rw [if_pos q1] at h; cases h; exact Or.inr (Or.inr (Or.inr (Or.inr (Or.inr (Or.inr (Or.inr (Or.inr (Or.inr (Or.inr (Or.inr (Or.inr (Or.inr (Or.inl (⟨rfl, q1, rfl⟩))))))))))))))
    · rw [if_neg q1] at h; cases h
  by_cases e69 : a = 69
  · subst e69
    replace h : (if k < 180 then some (407 + k) else none) = some p := h
    by_cases q1 : k < 180
    · rw [if_pos q1] at h; cases h; exact Or.inr (Or.inr (Or.inr (Or.inr (Or.inr (Or.inr (Or.inr (Or.inr (Or.inr (Or.inr (Or.inr (Or.inr (Or.inr (Or.inr (Or.inl (⟨rfl, q1, rfl⟩)))))))))))))))
    · rw [if_neg q1] at h; cases h
  by_cases e72 : a = 72
  · subst e72
    replace h : (if k < 720 then some (587 + 4 * k) else none) = some p := h
    by_cases q1 : k < 720
    · rw [if_pos q1] at h; cases h; exact Or.inr (Or.inr (Or.inr (Or.inr (Or.inr (Or.inr (Or.inr (Or.inr (Or.inr (Or.inr (Or.inr (Or.inr (Or.inr (Or.inr (Or.inr (Or.inl (⟨rfl, q1, rfl⟩))))))))))))))))
    · rw [if_neg q1] at h; cases h
  by_cases e73 : a = 73
  · subst e73
    replace h : (if k < 720 then some (588 + 4 * k) else none) = some p := h
    by_cases q1 : k < 720
    · rw [if_pos q1] at h; cases h; exact Or.inr (Or.inr (Or.inr (Or.inr (Or.inr (Or.inr (Or.inr (Or.inr (Or.inr (Or.inr (Or.inr (Or.inr (Or.inr (Or.inr (Or.inr (Or.inr (Or.inl (⟨rfl, q1, rfl⟩)))))))))))))))))
    · rw [if_neg q1] at h; cases h
  by_cases e74 : a = 74
  · subst e74
    replace h : (if k < 720 then some (589 + 4 * k) else none) = some p := h
    by_cases q1 : k < 720
    · rw [if_pos q1] at h; cases h; exact Or.inr (Or.inr (Or.inr (Or.inr (Or.inr (Or.inr (Or.inr (Or.inr (Or.inr (Or.inr (Or.inr (Or.inr (Or.inr (Or.inr (Or.inr (Or.inr (Or.inr (Or.inl (⟨rfl, q1, rfl⟩))))))))))))))))))
    · rw [if_neg q1] at h; cases h
  by_cases e75 : a = 75
  · subst e75
    replace h : (if k < 720 then some (590 + 4 * k) else none) = some p := h
    by_cases q1 : k < 720
    · rw [if_pos q1] at h; cases h; exact Or.inr (Or.inr (Or.inr (Or.inr (Or.inr (Or.inr (Or.inr (Or.inr (Or.inr (Or.inr (Or.inr (Or.inr (Or.inr (Or.inr (Or.inr (Or.inr (Or.inr (Or.inr (Or.inl (⟨rfl, q1, rfl⟩)))))))))))))))))))
    · rw [if_neg q1] at h; cases h
  by_cases e76 : a = 76
  · subst e76
    replace h : (if k < 6 then some (3467 + 3 * k) else none) = some p := h
    by_cases q1 : k < 6
    · rw [if_pos q1] at h; cases h; exact Or.inr (Or.inr (Or.inr (Or.inr (Or.inr (Or.inr (Or.inr (Or.inr (Or.inr (Or.inr (Or.inr (Or.inr (Or.inr (Or.inr (Or.inr (Or.inr (Or.inr (Or.inr (Or.inr (Or.inl (⟨rfl, q1, rfl⟩))))))))))))))))))))
    · rw [if_neg q1] at h; cases h
  by_cases e77 : a = 77
  · subst e77
    replace h : (if k < 6 then some (3468 + 3 * k) else none) = some p := h
    by_cases q1 : k < 6
    · rw [if_pos q1] at h; cases h; exact Or.inr (Or.inr (Or.inr (Or.inr (Or.inr (Or.inr (Or.inr (Or.inr (Or.inr (Or.inr (Or.inr (Or.inr (Or.inr (Or.inr (Or.inr (Or.inr (Or.inr (Or.inr (Or.inr (Or.inr (Or.inl (⟨rfl, q1, rfl⟩)))))))))))))))))))))
    · rw [if_neg q1] at h; cases h
  by_cases e78 : a = 78
  · subst e78
    replace h : (if k < 6 then some (3469 + 3 * k) else none) = some p := h
    by_cases q1 : k < 6
    · rw [if_pos q1] at h; cases h; exact Or.inr (Or.inr (Or.inr (Or.inr (Or.inr (Or.inr (Or.inr (Or.inr (Or.inr (Or.inr (Or.inr (Or.inr (Or.inr (Or.inr (Or.inr (Or.inr (Or.inr (Or.inr (Or.inr (Or.inr (Or.inr (Or.inl (⟨rfl, q1, rfl⟩))))))))))))))))))))))
    · rw [if_neg q1] at h; cases h
  by_cases e79 : a = 79
  · subst e79
    replace h : (if k < 18 then some (3485 + k) else none) = some p := h
    by_cases q1 : k < 18
    · rw [if_pos q1] at h; cases h; exact Or.inr (Or.inr (Or.inr (Or.inr (Or.inr (Or.inr (Or.inr (Or.inr (Or.inr (Or.inr (Or.inr (Or.inr (Or.inr (Or.inr (Or.inr (Or.inr (Or.inr (Or.inr (Or.inr (Or.inr (Or.inr (Or.inr (Or.inl (⟨rfl, q1, rfl⟩)))))))))))))))))))))))
    · rw [if_neg q1] at h; cases h
  by_cases e82 : a = 82
  · subst e82
    replace h : (if k < 8 then some (3503 + k) else none) = some p := h
    by_cases q1 : k < 8
    · rw [if_pos q1] at h; cases h; exact Or.inr (Or.inr (Or.inr (Or.inr (Or.inr (Or.inr (Or.inr (Or.inr (Or.inr (Or.inr (Or.inr (Or.inr (Or.inr (Or.inr (Or.inr (Or.inr (Or.inr (Or.inr (Or.inr (Or.inr (Or.inr (Or.inr (Or.inr (Or.inl (⟨rfl, q1, rfl⟩))))))))))))))))))))))))
    · rw [if_neg q1] at h; cases h
  by_cases e83 : a = 83
  · subst e83
    replace h : (if k < 128 then some (3511 + 5 * k) else none) = some p := h
    by_cases q1 : k < 128
    · rw [if_pos q1] at h; cases h; exact Or.inr (Or.inr (Or.inr (Or.inr (Or.inr (Or.inr (Or.inr (Or.inr (Or.inr (Or.inr (Or.inr (Or.inr (Or.inr (Or.inr (Or.inr (Or.inr (Or.inr (Or.inr (Or.inr (Or.inr (Or.inr (Or.inr (Or.inr (Or.inr (Or.inl (⟨rfl, q1, rfl⟩)))))))))))))))))))))))))
    · rw [if_neg q1] at h; cases h
  by_cases e84 : a = 84
  · subst e84
    replace h : (if k < 128 then some (3512 + 5 * k) else none) = some p := h
    by_cases q1 : k < 128
    · rw [if_pos q1] at h; cases h; exact Or.inr (Or.inr (Or.inr (Or.inr (Or.inr (Or.inr (Or.inr (Or.inr (Or.inr (Or.inr (Or.inr (Or.inr (Or.inr (Or.inr (Or.inr (Or.inr (Or.inr (Or.inr (Or.inr (Or.inr (Or.inr (Or.inr (Or.inr (Or.inr (Or.inr (Or.inl (⟨rfl, q1, rfl⟩))))))))))))))))))))))))))
    · rw [if_neg q1] at h; cases h
  by_cases e85 : a = 85
  · subst e85
    replace h : (if k < 128 then some (3513 + 5 * k) else none) = some p := h
    by_cases q1 : k < 128
    · rw [if_pos q1] at h; cases h; exact Or.inr (Or.inr (Or.inr (Or.inr (Or.inr (Or.inr (Or.inr (Or.inr (Or.inr (Or.inr (Or.inr (Or.inr (Or.inr (Or.inr (Or.inr (Or.inr (Or.inr (Or.inr (Or.inr (Or.inr (Or.inr (Or.inr (Or.inr (Or.inr (Or.inr (Or.inr (Or.inl (⟨rfl, q1, rfl⟩)))))))))))))))))))))))))))
    · rw [if_neg q1] at h; cases h
  by_cases e86 : a = 86
  · subst e86
    replace h : (if k < 128 then some (3514 + 5 * k) else none) = some p := h
    by_cases q1 : k < 128
    · rw [if_pos q1] at h; cases h; exact Or.inr (Or.inr (Or.inr (Or.inr (Or.inr (Or.inr (Or.inr (Or.inr (Or.inr (Or.inr (Or.inr (Or.inr (Or.inr (Or.inr (Or.inr (Or.inr (Or.inr (Or.inr (Or.inr (Or.inr (Or.inr (Or.inr (Or.inr (Or.inr (Or.inr (Or.inr (Or.inr (Or.inl (⟨rfl, q1, rfl⟩))))))))))))))))))))))))))))
    · rw [if_neg q1] at h; cases h
  by_cases e87 : a = 87
  · subst e87
    replace h : (if k < 128 then some (3515 + 5 * k) else none) = some p := h
    by_cases q1 : k < 128
    · rw [if_pos q1] at h; cases h; exact Or.inr (Or.inr (Or.inr (Or.inr (Or.inr (Or.inr (Or.inr (Or.inr (Or.inr (Or.inr (Or.inr (Or.inr (Or.inr (Or.inr (Or.inr (Or.inr (Or.inr (Or.inr (Or.inr (Or.inr (Or.inr (Or.inr (Or.inr (Or.inr (Or.inr (Or.inr (Or.inr (Or.inr (Or.inl (⟨rfl, q1, rfl⟩)))))))))))))))))))))))))))))
    · rw [if_neg q1] at h; cases h
  by_cases e88 : a = 88
  · subst e88
    replace h : (if k < 3200 then some (4151 + 2 * k) else none) = some p := h
    by_cases q1 : k < 3200
    · rw [if_pos q1] at h; cases h; exact Or.inr (Or.inr (Or.inr (Or.inr (Or.inr (Or.inr (Or.inr (Or.inr (Or.inr (Or.inr (Or.inr (Or.inr (Or.inr (Or.inr (Or.inr (Or.inr (Or.inr (Or.inr (Or.inr (Or.inr (Or.inr (Or.inr (Or.inr (Or.inr (Or.inr (Or.inr (Or.inr (Or.inr (Or.inr (Or.inl (⟨rfl, q1, rfl⟩))))))))))))))))))))))))))))))
    · rw [if_neg q1] at h; cases h
  by_cases e89 : a = 89
  · subst e89
    replace h : (if k < 3200 then some (4152 + 2 * k) else none) = some p := h
    by_cases q1 : k < 3200
    · rw [if_pos q1] at h; cases h; exact Or.inr (Or.inr (Or.inr (Or.inr (Or.inr (Or.inr (Or.inr (Or.inr (Or.inr (Or.inr (Or.inr (Or.inr (Or.inr (Or.inr (Or.inr (Or.inr (Or.inr (Or.inr (Or.inr (Or.inr (Or.inr (Or.inr (Or.inr (Or.inr (Or.inr (Or.inr (Or.inr (Or.inr (Or.inr (Or.inr (⟨rfl, q1, rfl⟩))))))))))))))))))))))))))))))
    · rw [if_neg q1] at h; cases h
  exfalso
  unfold x_pos at h
  rw [if_neg e59, if_neg e60, if_neg e61, if_neg e62, if_neg e63, if_neg e64, if_neg e65, if_neg e66, if_neg e67, if_neg e68, if_neg e70, if_neg e71, if_neg e69, if_neg e72, if_neg e73, if_neg e74, if_neg e75, if_neg e76, if_neg e77, if_neg e78, if_neg e79, if_neg e82, if_neg e83, if_neg e84, if_neg e85, if_neg e86, if_neg e87, if_neg e88, if_neg e89] at h
  cases h
theorem x_cl_60 {k : Nat} (h : k < 20) : x_cell (2 + k) = 60 := by
  unfold x_cell
  rw [if_neg (by omega), if_pos (by omega)]
theorem x_cl_61 {k : Nat} (h : k < 6) : x_cell (22 + 2 * k) = 61 := by
  unfold x_cell
  rw [if_neg (by omega), if_neg (by omega), if_pos (by omega)]
  omega
theorem x_cl_62 {k : Nat} (h : k < 6) : x_cell (23 + 2 * k) = 62 := by
  unfold x_cell
  rw [if_neg (by omega), if_neg (by omega), if_pos (by omega)]
  omega
theorem x_cl_63 {k : Nat} (h : k < 24) : x_cell (34 + 3 * k) = 63 := by
  unfold x_cell
  rw [if_neg (by omega), if_neg (by omega), if_neg (by omega), if_pos (by omega)]
  omega
theorem x_cl_64 {k : Nat} (h : k < 24) : x_cell (35 + 3 * k) = 64 := by
  unfold x_cell
  rw [if_neg (by omega), if_neg (by omega), if_neg (by omega), if_pos (by omega)]
  omega
theorem x_cl_65 {k : Nat} (h : k < 24) : x_cell (36 + 3 * k) = 65 := by
  unfold x_cell
  rw [if_neg (by omega), if_neg (by omega), if_neg (by omega), if_pos (by omega)]
  omega
theorem x_cl_66 {k : Nat} (h : k < 60) : x_cell (107 + 5 * k) = 66 := by
  unfold x_cell
  rw [if_neg (by omega), if_neg (by omega), if_neg (by omega), if_neg (by omega), if_pos (by omega)]
  rw [if_pos (by omega)]
  omega
theorem x_cl_67 {k : Nat} (h : k < 60) : x_cell (108 + 5 * k) = 67 := by
  unfold x_cell
  rw [if_neg (by omega), if_neg (by omega), if_neg (by omega), if_neg (by omega), if_pos (by omega)]
  rw [if_pos (by omega)]
  omega
theorem x_cl_68 {k : Nat} (h : k < 60) : x_cell (109 + 5 * k) = 68 := by
  unfold x_cell
  rw [if_neg (by omega), if_neg (by omega), if_neg (by omega), if_neg (by omega), if_pos (by omega)]
  rw [if_pos (by omega)]
  omega
theorem x_cl_70 {k : Nat} (h : k < 60) : x_cell (110 + 5 * k) = 70 := by
  unfold x_cell
  rw [if_neg (by omega), if_neg (by omega), if_neg (by omega), if_neg (by omega), if_pos (by omega)]
  rw [if_neg (by omega)]
  omega
theorem x_cl_71 {k : Nat} (h : k < 60) : x_cell (111 + 5 * k) = 71 := by
  unfold x_cell
  rw [if_neg (by omega), if_neg (by omega), if_neg (by omega), if_neg (by omega), if_pos (by omega)]
  rw [if_neg (by omega)]
  omega
theorem x_cl_69 {k : Nat} (h : k < 180) : x_cell (407 + k) = 69 := by
  unfold x_cell
  rw [if_neg (by omega), if_neg (by omega), if_neg (by omega), if_neg (by omega), if_neg (by omega), if_pos (by omega)]
theorem x_cl_72 {k : Nat} (h : k < 720) : x_cell (587 + 4 * k) = 72 := by
  unfold x_cell
  rw [if_neg (by omega), if_neg (by omega), if_neg (by omega), if_neg (by omega), if_neg (by omega), if_neg (by omega), if_pos (by omega)]
  omega
theorem x_cl_73 {k : Nat} (h : k < 720) : x_cell (588 + 4 * k) = 73 := by
  unfold x_cell
  rw [if_neg (by omega), if_neg (by omega), if_neg (by omega), if_neg (by omega), if_neg (by omega), if_neg (by omega), if_pos (by omega)]
  omega
theorem x_cl_74 {k : Nat} (h : k < 720) : x_cell (589 + 4 * k) = 74 := by
  unfold x_cell
  rw [if_neg (by omega), if_neg (by omega), if_neg (by omega), if_neg (by omega), if_neg (by omega), if_neg (by omega), if_pos (by omega)]
  omega
theorem x_cl_75 {k : Nat} (h : k < 720) : x_cell (590 + 4 * k) = 75 := by
  unfold x_cell
  rw [if_neg (by omega), if_neg (by omega), if_neg (by omega), if_neg (by omega), if_neg (by omega), if_neg (by omega), if_pos (by omega)]
  omega
theorem x_cl_76 {k : Nat} (h : k < 6) : x_cell (3467 + 3 * k) = 76 := by
  unfold x_cell
  rw [if_neg (by omega), if_neg (by omega), if_neg (by omega), if_neg (by omega), if_neg (by omega), if_neg (by omega), if_neg (by omega), if_pos (by omega)]
  omega
theorem x_cl_77 {k : Nat} (h : k < 6) : x_cell (3468 + 3 * k) = 77 := by
  unfold x_cell
  rw [if_neg (by omega), if_neg (by omega), if_neg (by omega), if_neg (by omega), if_neg (by omega), if_neg (by omega), if_neg (by omega), if_pos (by omega)]
  omega
theorem x_cl_78 {k : Nat} (h : k < 6) : x_cell (3469 + 3 * k) = 78 := by
  unfold x_cell
  rw [if_neg (by omega), if_neg (by omega), if_neg (by omega), if_neg (by omega), if_neg (by omega), if_neg (by omega), if_neg (by omega), if_pos (by omega)]
  omega
theorem x_cl_79 {k : Nat} (h : k < 18) : x_cell (3485 + k) = 79 := by
  unfold x_cell
  rw [if_neg (by omega), if_neg (by omega), if_neg (by omega), if_neg (by omega), if_neg (by omega), if_neg (by omega), if_neg (by omega), if_neg (by omega), if_pos (by omega)]
theorem x_cl_82 {k : Nat} (h : k < 8) : x_cell (3503 + k) = 82 := by
  unfold x_cell
  rw [if_neg (by omega), if_neg (by omega), if_neg (by omega), if_neg (by omega), if_neg (by omega), if_neg (by omega), if_neg (by omega), if_neg (by omega), if_neg (by omega), if_pos (by omega)]
theorem x_cl_83 {k : Nat} (h : k < 128) : x_cell (3511 + 5 * k) = 83 := by
  unfold x_cell
  rw [if_neg (by omega), if_neg (by omega), if_neg (by omega), if_neg (by omega), if_neg (by omega), if_neg (by omega), if_neg (by omega), if_neg (by omega), if_neg (by omega), if_neg (by omega), if_pos (by omega)]
  omega
theorem x_cl_84 {k : Nat} (h : k < 128) : x_cell (3512 + 5 * k) = 84 := by
  unfold x_cell
  rw [if_neg (by omega), if_neg (by omega), if_neg (by omega), if_neg (by omega), if_neg (by omega), if_neg (by omega), if_neg (by omega), if_neg (by omega), if_neg (by omega), if_neg (by omega), if_pos (by omega)]
  omega
theorem x_cl_85 {k : Nat} (h : k < 128) : x_cell (3513 + 5 * k) = 85 := by
  unfold x_cell
  rw [if_neg (by omega), if_neg (by omega), if_neg (by omega), if_neg (by omega), if_neg (by omega), if_neg (by omega), if_neg (by omega), if_neg (by omega), if_neg (by omega), if_neg (by omega), if_pos (by omega)]
  omega
theorem x_cl_86 {k : Nat} (h : k < 128) : x_cell (3514 + 5 * k) = 86 := by
  unfold x_cell
  rw [if_neg (by omega), if_neg (by omega), if_neg (by omega), if_neg (by omega), if_neg (by omega), if_neg (by omega), if_neg (by omega), if_neg (by omega), if_neg (by omega), if_neg (by omega), if_pos (by omega)]
  omega
theorem x_cl_87 {k : Nat} (h : k < 128) : x_cell (3515 + 5 * k) = 87 := by
  unfold x_cell
  rw [if_neg (by omega), if_neg (by omega), if_neg (by omega), if_neg (by omega), if_neg (by omega), if_neg (by omega), if_neg (by omega), if_neg (by omega), if_neg (by omega), if_neg (by omega), if_pos (by omega)]
  omega
theorem x_cl_88 {k : Nat} (h : k < 3200) : x_cell (4151 + 2 * k) = 88 := by
  unfold x_cell
  rw [if_neg (by omega), if_neg (by omega), if_neg (by omega), if_neg (by omega), if_neg (by omega), if_neg (by omega), if_neg (by omega), if_neg (by omega), if_neg (by omega), if_neg (by omega), if_neg (by omega)]
  omega
theorem x_cl_89 {k : Nat} (h : k < 3200) : x_cell (4152 + 2 * k) = 89 := by
  unfold x_cell
  rw [if_neg (by omega), if_neg (by omega), if_neg (by omega), if_neg (by omega), if_neg (by omega), if_neg (by omega), if_neg (by omega), if_neg (by omega), if_neg (by omega), if_neg (by omega), if_neg (by omega)]
  omega
theorem x_pos_c {a k p : Nat} (hp : x_pos a k = some p) : x_cell p = a ∧ p < 10551 ∧ ¬ a = 99 ∧ ¬ (a = 59 ∧ (k = 0 ∨ k = 68 ∨ k = 69 ∨ k = 70)) := by
  rcases x_pos_cs hp with ⟨e1, e2, e3⟩ | ⟨e1, e2, e3⟩ | ⟨e1, e2, e3⟩ | ⟨e1, e2, e3⟩ | ⟨e1, e2, e3⟩ | ⟨e1, e2, e3⟩ | ⟨e1, e2, e3⟩ | ⟨e1, e2, e3⟩ | ⟨e1, e2, e3⟩ | ⟨e1, e2, e3⟩ | ⟨e1, e2, e3⟩ | ⟨e1, e2, e3⟩ | ⟨e1, e2, e3⟩ | ⟨e1, e2, e3⟩ | ⟨e1, e2, e3⟩ | ⟨e1, e2, e3⟩ | ⟨e1, e2, e3⟩ | ⟨e1, e2, e3⟩ | ⟨e1, e2, e3⟩ | ⟨e1, e2, e3⟩ | ⟨e1, e2, e3⟩ | ⟨e1, e2, e3⟩ | ⟨e1, e2, e3⟩ | ⟨e1, e2, e3⟩ | ⟨e1, e2, e3⟩ | ⟨e1, e2, e3⟩ | ⟨e1, e2, e3⟩ | ⟨e1, e2, e3⟩ | ⟨e1, e2, e3⟩ | ⟨e1, e2, e3⟩ | ⟨e1, e2, e3⟩
  · subst e1 e2 e3; decide
  · subst e1 e2 e3; decide
  · subst e1 e2 e3; decide
  · subst e3; exact ⟨(x_cl_60 e2).trans e1.symm, by omega, by omega, by omega⟩
  · subst e3; exact ⟨(x_cl_61 e2).trans e1.symm, by omega, by omega, by omega⟩
  · subst e3; exact ⟨(x_cl_62 e2).trans e1.symm, by omega, by omega, by omega⟩
  · subst e3; exact ⟨(x_cl_63 e2).trans e1.symm, by omega, by omega, by omega⟩
  · subst e3; exact ⟨(x_cl_64 e2).trans e1.symm, by omega, by omega, by omega⟩
  · subst e3; exact ⟨(x_cl_65 e2).trans e1.symm, by omega, by omega, by omega⟩
  · subst e3; exact ⟨(x_cl_66 e2).trans e1.symm, by omega, by omega, by omega⟩
  · subst e3; exact ⟨(x_cl_67 e2).trans e1.symm, by omega, by omega, by omega⟩
  · subst e3; exact ⟨(x_cl_68 e2).trans e1.symm, by omega, by omega, by omega⟩
  · subst e3; exact ⟨(x_cl_70 e2).trans e1.symm, by omega, by omega, by omega⟩
  · subst e3; exact ⟨(x_cl_71 e2).trans e1.symm, by omega, by omega, by omega⟩
  · subst e3; exact ⟨(x_cl_69 e2).trans e1.symm, by omega, by omega, by omega⟩
  · subst e3; exact ⟨(x_cl_72 e2).trans e1.symm, by omega, by omega, by omega⟩
  · subst e3; exact ⟨(x_cl_73 e2).trans e1.symm, by omega, by omega, by omega⟩
  · subst e3; exact ⟨(x_cl_74 e2).trans e1.symm, by omega, by omega, by omega⟩
  · subst e3; exact ⟨(x_cl_75 e2).trans e1.symm, by omega, by omega, by omega⟩
  · subst e3; exact ⟨(x_cl_76 e2).trans e1.symm, by omega, by omega, by omega⟩
  · subst e3; exact ⟨(x_cl_77 e2).trans e1.symm, by omega, by omega, by omega⟩
  · subst e3; exact ⟨(x_cl_78 e2).trans e1.symm, by omega, by omega, by omega⟩
  · subst e3; exact ⟨(x_cl_79 e2).trans e1.symm, by omega, by omega, by omega⟩
  · subst e3; exact ⟨(x_cl_82 e2).trans e1.symm, by omega, by omega, by omega⟩
  · subst e3; exact ⟨(x_cl_83 e2).trans e1.symm, by omega, by omega, by omega⟩
  · subst e3; exact ⟨(x_cl_84 e2).trans e1.symm, by omega, by omega, by omega⟩
  · subst e3; exact ⟨(x_cl_85 e2).trans e1.symm, by omega, by omega, by omega⟩
  · subst e3; exact ⟨(x_cl_86 e2).trans e1.symm, by omega, by omega, by omega⟩
  · subst e3; exact ⟨(x_cl_87 e2).trans e1.symm, by omega, by omega, by omega⟩
  · subst e3; exact ⟨(x_cl_88 e2).trans e1.symm, by omega, by omega, by omega⟩
  · subst e3; exact ⟨(x_cl_89 e2).trans e1.symm, by omega, by omega, by omega⟩
theorem x_pos_k {a k j p : Nat} (h1 : x_pos a k = some p) (h2 : x_pos a j = some p) : k = j := by
  have h2 := x_pos_cs h2
  rcases x_pos_cs h1 with ⟨e1, e2, e3⟩ | ⟨e1, e2, e3⟩ | ⟨e1, e2, e3⟩ | ⟨e1, e2, e3⟩ | ⟨e1, e2, e3⟩ | ⟨e1, e2, e3⟩ | ⟨e1, e2, e3⟩ | ⟨e1, e2, e3⟩ | ⟨e1, e2, e3⟩ | ⟨e1, e2, e3⟩ | ⟨e1, e2, e3⟩ | ⟨e1, e2, e3⟩ | ⟨e1, e2, e3⟩ | ⟨e1, e2, e3⟩ | ⟨e1, e2, e3⟩ | ⟨e1, e2, e3⟩ | ⟨e1, e2, e3⟩ | ⟨e1, e2, e3⟩ | ⟨e1, e2, e3⟩ | ⟨e1, e2, e3⟩ | ⟨e1, e2, e3⟩ | ⟨e1, e2, e3⟩ | ⟨e1, e2, e3⟩ | ⟨e1, e2, e3⟩ | ⟨e1, e2, e3⟩ | ⟨e1, e2, e3⟩ | ⟨e1, e2, e3⟩ | ⟨e1, e2, e3⟩ | ⟨e1, e2, e3⟩ | ⟨e1, e2, e3⟩ | ⟨e1, e2, e3⟩
  all_goals omega
theorem x_pos_inj {a b k j p : Nat} (h1 : x_pos a k = some p) (h2 : x_pos b j = some p) : b = a ∧ j = k := by
  have e : b = a := (x_pos_c h2).1.symm.trans (x_pos_c h1).1
  subst e
  exact ⟨rfl, (x_pos_k h1 h2).symm⟩
def x_sp (b j : Nat) : Prop := b = 59 ∧ (j = 0 ∨ j = 68 ∨ j = 69 ∨ j = 70)
/-- p places done; tk: taken, or put back; h as it was before -/
def x_st (h : mq_H) (tk : Bool) (p : Nat) (h' : mq_H) : Prop := mq_N h' = mq_N h ∧ mq_Z h' = mq_Z h ∧ mq_sh h' = mq_sh h ∧ mq_R h' = mq_R h ∧ mq_I h' 59 70 = nI p ∧ mq_I h' 59 68 = (if tk then 1 else 0) ∧ mq_I h' 59 69 = 1 ∧ mq_I h' 59 0 = 0 ∧
  (tk = true → (∀ b j, ¬ b = 99 → ¬ x_sp b j → mq_I h' b j = mq_I h b j) ∧ ∀ b j q, x_pos b j = some q → q < p → mq_I h' 99 q = mq_I h b j) ∧
  (tk = false → (∀ j, mq_I h' 99 j = mq_I h 99 j) ∧ ∀ b j, ¬ b = 99 → ¬ x_sp b j → (∀ q, x_pos b j = some q → q < p → mq_I h' b j = mq_I h 99 q) ∧ ((∀ q, x_pos b j = some q → p ≤ q) → mq_I h' b j = mq_I h b j))
theorem x_st.cast {tk : Bool} {p q : Nat} (S : x_st h tk p h') (e : p = q) : x_st h tk q h' := e ▸ S
theorem x_kept {tk : Bool} {p a k : Nat} (S : x_st h tk p h') (hx : x_pos a k = some p) {v : Int32} (ev : v = mq_I h' a k) (hq : ∀ (r : Int32) h'', x_st h tk (p + 1) (mq_setI h'' a k r) → Q (some (.int r)) h'') : mq_Call mq_G (mq_tT lL) 223 [.retAddr 59, .int v] h' Q := by
  obtain ⟨s1, s2, s3, s4, s5, s6, s7, s8, s9, s10⟩ := S
  obtain ⟨c1, c2, c3, c4⟩ := x_pos_c hx
  have e1 : mq_I h' 59 70 + 1 = nI (p + 1) := by rw [s5]; exact nI_1 _
  have e2 : mq_I (mq_setI h' 59 70 (mq_I h' 59 70 + 1)) 59 70 - 1 = nI p := by
    show mq_I h' 59 70 + 1 - 1 = nI p
    rw [e1]
    exact nI_pred _
  have hin : mq_inb (mq_I (mq_setI h' 59 70 (mq_I h' 59 70 + 1)) 59 70 - 1) 13500 = true := x_inb e2 (by omega) (by decide)
  have nsp : ∀ b j, b = a ∧ j = k → ¬ x_sp b j := fun b j e z => c4 (by rw [← e.1, ← e.2]; exact z)
  apply mq_enter 60 []
  cases tk with
  | true =>
    obtain ⟨t1, t2⟩ := s9 rfl
    refine bn_t (by show ¬ mq_I h' 59 68 = 0; rw [s6]; decide) ?_
    refine gq_i hin ?_
    have ev2 : v = mq_I h a k := ev.trans (t1 a k c3 c4)
    refine hq v _ ?_
    have rd : ∀ b j, mq_I (mq_setI (mq_setI (mq_setI h' 59 70 (mq_I h' 59 70 + 1)) 99 (mq_I (mq_setI h' 59 70 (mq_I h' 59 70 + 1)) 59 70 - 1).toNatClampNeg v) a k v) b j = if b = a ∧ j = k then v else if b = 99 ∧ j = p then v else if b = 59 ∧ j = 70 then nI (p + 1) else mq_I h' b j := by
      intro b j
      rw [x_cl e2 (by omega), e1]
      simp only [mq_I_setI]
      repeat' split
      all_goals first
        | rfl
        | (exfalso; omega)
    refine ⟨s1, s2, s3, s4, ?_, ?_, ?_, ?_, fun _ => ⟨fun b j hb hs => ?_, fun b j q hbj hq' => ?_⟩, fun z => by cases z⟩
    · rw [rd, if_neg (by omega), if_neg (by omega), if_pos (by omega)]
    · rw [rd, if_neg (by omega), if_neg (by omega), if_neg (by omega)]; exact s6
    · rw [rd, if_neg (by omega), if_neg (by omega), if_neg (by omega)]; exact s7
    · rw [rd, if_neg (by omega), if_neg (by omega), if_neg (by omega)]; exact s8
    · rw [rd]
      by_cases q1 : b = a ∧ j = k
      · rw [if_pos q1, q1.1, q1.2]; exact ev2
      · rw [if_neg q1, if_neg (fun z => hb z.1), if_neg (fun z => hs ⟨z.1, Or.inr (Or.inr (Or.inr z.2))⟩)]
        exact t1 b j hb hs
    · rw [rd, if_neg (by omega)]
      by_cases q1 : q = p
      · subst q1
        obtain ⟨z1, z2⟩ := x_pos_inj hx hbj
        rw [if_pos ⟨rfl, rfl⟩, z1, z2]
        exact ev2
      · rw [if_neg (by omega), if_neg (by omega)]
        exact t2 b j q hbj (by omega)
  | false =>
    obtain ⟨t1, t2⟩ := s10 rfl
    refine bn_f (by show mq_I h' 59 68 = 0; rw [s6]; rfl) ?_
    refine gq_i hin ?_
    refine hq _ _ ?_
    have rv : mq_I (mq_setI h' 59 70 (mq_I h' 59 70 + 1)) 99 (mq_I (mq_setI h' 59 70 (mq_I h' 59 70 + 1)) 59 70 - 1).toNatClampNeg = mq_I h 99 p := by
      rw [x_cl e2 (by omega)]
      exact t1 p
    rw [rv]
    have rd : ∀ b j, mq_I (mq_setI (mq_setI h' 59 70 (mq_I h' 59 70 + 1)) a k (mq_I h 99 p)) b j = if b = a ∧ j = k then mq_I h 99 p else if b = 59 ∧ j = 70 then nI (p + 1) else mq_I h' b j := by
      intro b j
      rw [e1]
      simp only [mq_I_setI]
      repeat' split
      all_goals first
        | rfl
        | (exfalso; omega)
    refine ⟨s1, s2, s3, s4, ?_, ?_, ?_, ?_, fun z => (by cases z), fun _ => ⟨fun j => ?_, fun b j hb hs => ⟨fun q hbj hq' => ?_, fun hn => ?_⟩⟩⟩
    · rw [rd, if_neg (by omega), if_pos (by omega)]
    · rw [rd, if_neg (by omega), if_neg (by omega)]; exact s6
    · rw [rd, if_neg (by omega), if_neg (by omega)]; exact s7
    · rw [rd, if_neg (by omega), if_neg (by omega)]; exact s8
    · rw [rd, if_neg (by omega), if_neg (by omega)]; exact t1 j
    · rw [rd]
      by_cases q1 : b = a ∧ j = k
      · rw [q1.1, q1.2, hx] at hbj
        cases hbj
        rw [if_pos q1]
      · rw [if_neg q1, if_neg (fun z => hs ⟨z.1, Or.inr (Or.inr (Or.inr z.2))⟩)]
        refine (t2 b j hb hs).1 q hbj ?_
        rcases Nat.lt_or_ge q p with y | y
        · exact y
        · exact absurd (x_pos_inj hx (by rw [show p = q by omega]; exact hbj)) (fun z => q1 z)
    · rw [rd]
      by_cases q1 : b = a ∧ j = k
      · have := hn p (by rw [q1.1, q1.2]; exact hx)
        omega
      · rw [if_neg q1, if_neg (fun z => hs ⟨z.1, Or.inr (Or.inr (Or.inr z.2))⟩)]
        exact (t2 b j hb hs).2 (fun q z => by have := hn q z; omega)
theorem xp_60 {c : Nat} (hc : c < 20) : x_pos 60 (nI c).toNatClampNeg = some (2 + c) := by
  rw [nI_clamp (by omega)]
  simp [x_pos, hc]
theorem xp_61 {c : Nat} (hc : c < 6) : x_pos 61 (nI c).toNatClampNeg = some (22 + 2 * c) := by
  rw [nI_clamp (by omega)]
  simp [x_pos, hc]
theorem xp_62 {c : Nat} (hc : c < 6) : x_pos 62 (nI c).toNatClampNeg = some (23 + 2 * c) := by
  rw [nI_clamp (by omega)]
  simp [x_pos, hc]
theorem xp_63 {c : Nat} (hc : c < 24) : x_pos 63 (nI c).toNatClampNeg = some (34 + 3 * c) := by
  rw [nI_clamp (by omega)]
  simp [x_pos, hc]
theorem xp_64 {c : Nat} (hc : c < 24) : x_pos 64 (nI c).toNatClampNeg = some (35 + 3 * c) := by
  rw [nI_clamp (by omega)]
  simp [x_pos, hc]
theorem xp_65 {c : Nat} (hc : c < 24) : x_pos 65 (nI c).toNatClampNeg = some (36 + 3 * c) := by
  rw [nI_clamp (by omega)]
  simp [x_pos, hc]
theorem xp_66 {c : Nat} (hc : c < 60) : x_pos 66 (nI c).toNatClampNeg = some (107 + 5 * c) := by
  rw [nI_clamp (by omega)]
  simp [x_pos, hc]
theorem xp_67 {c : Nat} (hc : c < 60) : x_pos 67 (nI c).toNatClampNeg = some (108 + 5 * c) := by
  rw [nI_clamp (by omega)]
  simp [x_pos, hc]
theorem xp_68 {c : Nat} (hc : c < 60) : x_pos 68 (nI c).toNatClampNeg = some (109 + 5 * c) := by
  rw [nI_clamp (by omega)]
  simp [x_pos, hc]
theorem xp_70 {c : Nat} (hc : c < 60) : x_pos 70 (nI c).toNatClampNeg = some (110 + 5 * c) := by
  rw [nI_clamp (by omega)]
  simp [x_pos, hc]
theorem xp_71 {c : Nat} (hc : c < 60) : x_pos 71 (nI c).toNatClampNeg = some (111 + 5 * c) := by
  rw [nI_clamp (by omega)]
  simp [x_pos, hc]
theorem xp_69 {c : Nat} (hc : c < 180) : x_pos 69 (nI c).toNatClampNeg = some (407 + c) := by
  rw [nI_clamp (by omega)]
  simp [x_pos, hc]
theorem xp_72 {c : Nat} (hc : c < 720) : x_pos 72 (nI c).toNatClampNeg = some (587 + 4 * c) := by
  rw [nI_clamp (by omega)]
  simp [x_pos, hc]
theorem xp_73 {c : Nat} (hc : c < 720) : x_pos 73 (nI c).toNatClampNeg = some (588 + 4 * c) := by
  rw [nI_clamp (by omega)]
  simp [x_pos, hc]
theorem xp_74 {c : Nat} (hc : c < 720) : x_pos 74 (nI c).toNatClampNeg = some (589 + 4 * c) := by
  rw [nI_clamp (by omega)]
  simp [x_pos, hc]
theorem xp_75 {c : Nat} (hc : c < 720) : x_pos 75 (nI c).toNatClampNeg = some (590 + 4 * c) := by
  rw [nI_clamp (by omega)]
  simp [x_pos, hc]
theorem xp_76 {c : Nat} (hc : c < 6) : x_pos 76 (nI c).toNatClampNeg = some (3467 + 3 * c) := by
  rw [nI_clamp (by omega)]
  simp [x_pos, hc]
theorem xp_77 {c : Nat} (hc : c < 6) : x_pos 77 (nI c).toNatClampNeg = some (3468 + 3 * c) := by
  rw [nI_clamp (by omega)]
  simp [x_pos, hc]
theorem xp_78 {c : Nat} (hc : c < 6) : x_pos 78 (nI c).toNatClampNeg = some (3469 + 3 * c) := by
  rw [nI_clamp (by omega)]
  simp [x_pos, hc]
theorem xp_79 {c : Nat} (hc : c < 18) : x_pos 79 (nI c).toNatClampNeg = some (3485 + c) := by
  rw [nI_clamp (by omega)]
  simp [x_pos, hc]
theorem xp_82 {c : Nat} (hc : c < 8) : x_pos 82 (nI c).toNatClampNeg = some (3503 + c) := by
  rw [nI_clamp (by omega)]
  simp [x_pos, hc]
theorem xp_83 {c : Nat} (hc : c < 128) : x_pos 83 (nI c).toNatClampNeg = some (3511 + 5 * c) := by
  rw [nI_clamp (by omega)]
  simp [x_pos, hc]
theorem xp_84 {c : Nat} (hc : c < 128) : x_pos 84 (nI c).toNatClampNeg = some (3512 + 5 * c) := by
  rw [nI_clamp (by omega)]
  simp [x_pos, hc]
theorem xp_85 {c : Nat} (hc : c < 128) : x_pos 85 (nI c).toNatClampNeg = some (3513 + 5 * c) := by
  rw [nI_clamp (by omega)]
  simp [x_pos, hc]
theorem xp_86 {c : Nat} (hc : c < 128) : x_pos 86 (nI c).toNatClampNeg = some (3514 + 5 * c) := by
  rw [nI_clamp (by omega)]
  simp [x_pos, hc]
theorem xp_87 {c : Nat} (hc : c < 128) : x_pos 87 (nI c).toNatClampNeg = some (3515 + 5 * c) := by
  rw [nI_clamp (by omega)]
  simp [x_pos, hc]
theorem xp_88 {c : Nat} (hc : c < 3200) : x_pos 88 (nI c).toNatClampNeg = some (4151 + 2 * c) := by
  rw [nI_clamp (by omega)]
  simp [x_pos, hc]
theorem xp_89 {c : Nat} (hc : c < 3200) : x_pos 89 (nI c).toNatClampNeg = some (4152 + 2 * c) := by
  rw [nI_clamp (by omega)]
  simp [x_pos, hc]
theorem x_lp_im_59 {tk : Bool} {y0 : Int32} (K : ∀ (y : Int32) h1, x_st h tk (22) h1 → mq_At mq_G (mq_tT lL) 226 87 [some (.retAddr 59), some (.int y0), some (.int y)] [] h1 Q) : ∀ (n c : Nat) (y : Int32) (h1 : mq_H), c + n = 20 → x_st h tk (2 + c) h1 → y = nI c → mq_At mq_G (mq_tT lL) 226 59 [some (.retAddr 59), some (.int y0), some (.int y)] [] h1 Q := by
  intro n
  induction n with
  | zero =>
    intro c y h1 hc S ey
    have hc : c = 20 := by omega
    subst ey hc
    apply mq_go 20 [87]
    refine bq_t (Int32.le_refl _) ?_
    exact K _ h1 S
  | succ n ih =>
    intro c y h1 hc S ey
    subst ey
    apply mq_go 100 [59]
    refine bq_f (show ¬ nI 20 ≤ nI c from nI_ge (by omega) (by omega)) ?_
    refine gq_i (inb_nI (by omega) (by decide)) ?_
    refine x_kept (p := 2 + c) (S.cast (by omega)) (xp_60 (by omega)) rfl (fun r0 g0 S0 => ?_)
    refine gq_i (inb_nI (by omega) (by decide)) ?_
    refine ih (c + 1) _ _ (by omega) ?_ (nI_1 _)
    exact S0.cast (by omega)
theorem x_lp_im_89 {tk : Bool} {y0 : Int32} (K : ∀ (y : Int32) h1, x_st h tk (34) h1 → mq_At mq_G (mq_tT lL) 226 133 [some (.retAddr 59), some (.int y0), some (.int y)] [] h1 Q) : ∀ (n c : Nat) (y : Int32) (h1 : mq_H), c + n = 6 → x_st h tk (22 + 2 * c) h1 → y = nI c → mq_At mq_G (mq_tT lL) 226 89 [some (.retAddr 59), some (.int y0), some (.int y)] [] h1 Q := by
  intro n
  induction n with
  | zero =>
    intro c y h1 hc S ey
    have hc : c = 6 := by omega
    subst ey hc
    apply mq_go 20 [133]
    refine bq_t (Int32.le_refl _) ?_
    exact K _ h1 S
  | succ n ih =>
    intro c y h1 hc S ey
    subst ey
    apply mq_go 100 [89]
    refine bq_f (show ¬ nI 6 ≤ nI c from nI_ge (by omega) (by omega)) ?_
    refine gq_i (inb_nI (by omega) (by decide)) ?_
    refine x_kept (p := 22 + 2 * c) (S.cast (by omega)) (xp_61 (by omega)) rfl (fun r0 g0 S0 => ?_)
    refine gq_i (inb_nI (by omega) (by decide)) ?_
    refine gq_i (inb_nI (by omega) (by decide)) ?_
    refine x_kept (p := 23 + 2 * c) (S0.cast (by omega)) (xp_62 (by omega)) rfl (fun r1 g1 S1 => ?_)
    refine gq_i (inb_nI (by omega) (by decide)) ?_
    refine ih (c + 1) _ _ (by omega) ?_ (nI_1 _)
    exact S1.cast (by omega)
theorem x_lp_im_135 {tk : Bool} {y0 : Int32} (K : ∀ (y : Int32) h1, x_st h tk (106) h1 → mq_At mq_G (mq_tT lL) 226 195 [some (.retAddr 59), some (.int y0), some (.int y)] [] h1 Q) : ∀ (n c : Nat) (y : Int32) (h1 : mq_H), c + n = 24 → x_st h tk (34 + 3 * c) h1 → y = nI c → mq_At mq_G (mq_tT lL) 226 135 [some (.retAddr 59), some (.int y0), some (.int y)] [] h1 Q := by
  intro n
  induction n with
  | zero =>
    intro c y h1 hc S ey
    have hc : c = 24 := by omega
    subst ey hc
    apply mq_go 20 [195]
    refine bq_t (Int32.le_refl _) ?_
    exact K _ h1 S
  | succ n ih =>
    intro c y h1 hc S ey
    subst ey
    apply mq_go 100 [135]
    refine bq_f (show ¬ nI 24 ≤ nI c from nI_ge (by omega) (by omega)) ?_
    refine gq_i (inb_nI (by omega) (by decide)) ?_
    refine x_kept (p := 34 + 3 * c) (S.cast (by omega)) (xp_63 (by omega)) rfl (fun r0 g0 S0 => ?_)
    refine gq_i (inb_nI (by omega) (by decide)) ?_
    refine gq_i (inb_nI (by omega) (by decide)) ?_
    refine x_kept (p := 35 + 3 * c) (S0.cast (by omega)) (xp_64 (by omega)) rfl (fun r1 g1 S1 => ?_)
    refine gq_i (inb_nI (by omega) (by decide)) ?_
    refine gq_i (inb_nI (by omega) (by decide)) ?_
    refine x_kept (p := 36 + 3 * c) (S1.cast (by omega)) (xp_65 (by omega)) rfl (fun r2 g2 S2 => ?_)
    refine gq_i (inb_nI (by omega) (by decide)) ?_
    refine ih (c + 1) _ _ (by omega) ?_ (nI_1 _)
    exact S2.cast (by omega)
theorem x_lp_kc_14 {tk : Bool} (K : ∀ (y : Int32) h1, x_st h tk (407) h1 → mq_At mq_G (mq_tT lL) 224 106 [some (.retAddr 59), some (.int y)] [] h1 Q) : ∀ (n c : Nat) (y : Int32) (h1 : mq_H), c + n = 60 → x_st h tk (107 + 5 * c) h1 → y = nI c → mq_At mq_G (mq_tT lL) 224 14 [some (.retAddr 59), some (.int y)] [] h1 Q := by
  intro n
  induction n with
  | zero =>
    intro c y h1 hc S ey
    have hc : c = 60 := by omega
    subst ey hc
    apply mq_go 20 [106]
    refine bq_t (Int32.le_refl _) ?_
    exact K _ h1 S
  | succ n ih =>
    intro c y h1 hc S ey
    subst ey
    apply mq_go 100 [14]
    refine bq_f (show ¬ nI 60 ≤ nI c from nI_ge (by omega) (by omega)) ?_
    refine gq_i (inb_nI (by omega) (by decide)) ?_
    refine x_kept (p := 107 + 5 * c) (S.cast (by omega)) (xp_66 (by omega)) rfl (fun r0 g0 S0 => ?_)
    refine gq_i (inb_nI (by omega) (by decide)) ?_
    refine gq_i (inb_nI (by omega) (by decide)) ?_
    refine x_kept (p := 108 + 5 * c) (S0.cast (by omega)) (xp_67 (by omega)) rfl (fun r1 g1 S1 => ?_)
    refine gq_i (inb_nI (by omega) (by decide)) ?_
    refine gq_i (inb_nI (by omega) (by decide)) ?_
    refine x_kept (p := 109 + 5 * c) (S1.cast (by omega)) (xp_68 (by omega)) rfl (fun r2 g2 S2 => ?_)
    refine gq_i (inb_nI (by omega) (by decide)) ?_
    refine gq_i (inb_nI (by omega) (by decide)) ?_
    refine x_kept (p := 110 + 5 * c) (S2.cast (by omega)) (xp_70 (by omega)) rfl (fun r3 g3 S3 => ?_)
    refine gq_i (inb_nI (by omega) (by decide)) ?_
    refine gq_i (inb_nI (by omega) (by decide)) ?_
    refine x_kept (p := 111 + 5 * c) (S3.cast (by omega)) (xp_71 (by omega)) rfl (fun r4 g4 S4 => ?_)
    refine gq_i (inb_nI (by omega) (by decide)) ?_
    refine ih (c + 1) _ _ (by omega) ?_ (nI_1 _)
    exact S4.cast (by omega)
theorem x_lp_kc_108 {tk : Bool} (K : ∀ (y : Int32) h1, x_st h tk (587) h1 → mq_At mq_G (mq_tT lL) 224 137 [some (.retAddr 59), some (.int y)] [] h1 Q) : ∀ (n c : Nat) (y : Int32) (h1 : mq_H), c + n = 180 → x_st h tk (407 + c) h1 → y = nI c → mq_At mq_G (mq_tT lL) 224 108 [some (.retAddr 59), some (.int y)] [] h1 Q := by
  intro n
  induction n with
  | zero =>
    intro c y h1 hc S ey
    have hc : c = 180 := by omega
    subst ey hc
    apply mq_go 20 [137]
    refine bq_t (Int32.le_refl _) ?_
    exact K _ h1 S
  | succ n ih =>
    intro c y h1 hc S ey
    subst ey
    apply mq_go 100 [108]
    refine bq_f (show ¬ nI 180 ≤ nI c from nI_ge (by omega) (by omega)) ?_
    refine gq_i (inb_nI (by omega) (by decide)) ?_
    refine x_kept (p := 407 + c) (S.cast (by omega)) (xp_69 (by omega)) rfl (fun r0 g0 S0 => ?_)
    refine gq_i (inb_nI (by omega) (by decide)) ?_
    refine ih (c + 1) _ _ (by omega) ?_ (nI_1 _)
    exact S0.cast (by omega)
theorem x_lp_kc_139 {tk : Bool} (K : ∀ (y : Int32) h1, x_st h tk (3467) h1 → mq_At mq_G (mq_tT lL) 224 216 [some (.retAddr 59), some (.int y)] [] h1 Q) : ∀ (n c : Nat) (y : Int32) (h1 : mq_H), c + n = 720 → x_st h tk (587 + 4 * c) h1 → y = nI c → mq_At mq_G (mq_tT lL) 224 139 [some (.retAddr 59), some (.int y)] [] h1 Q := by
  intro n
  induction n with
  | zero =>
    intro c y h1 hc S ey
    have hc : c = 720 := by omega
    subst ey hc
    apply mq_go 20 [216]
    refine bq_t (Int32.le_refl _) ?_
    exact K _ h1 S
  | succ n ih =>
    intro c y h1 hc S ey
    subst ey
    apply mq_go 100 [139]
    refine bq_f (show ¬ nI 720 ≤ nI c from nI_ge (by omega) (by omega)) ?_
    refine gq_i (inb_nI (by omega) (by decide)) ?_
    refine x_kept (p := 587 + 4 * c) (S.cast (by omega)) (xp_72 (by omega)) rfl (fun r0 g0 S0 => ?_)
    refine gq_i (inb_nI (by omega) (by decide)) ?_
    refine gq_i (inb_nI (by omega) (by decide)) ?_
    refine x_kept (p := 588 + 4 * c) (S0.cast (by omega)) (xp_73 (by omega)) rfl (fun r1 g1 S1 => ?_)
    refine gq_i (inb_nI (by omega) (by decide)) ?_
    refine gq_i (inb_nI (by omega) (by decide)) ?_
    refine x_kept (p := 589 + 4 * c) (S1.cast (by omega)) (xp_74 (by omega)) rfl (fun r2 g2 S2 => ?_)
    refine gq_i (inb_nI (by omega) (by decide)) ?_
    refine gq_i (inb_nI (by omega) (by decide)) ?_
    refine x_kept (p := 590 + 4 * c) (S2.cast (by omega)) (xp_75 (by omega)) rfl (fun r3 g3 S3 => ?_)
    refine gq_i (inb_nI (by omega) (by decide)) ?_
    refine ih (c + 1) _ _ (by omega) ?_ (nI_1 _)
    exact S3.cast (by omega)
theorem x_lp_kc_218 {tk : Bool} (K : ∀ (y : Int32) h1, x_st h tk (3485) h1 → mq_At mq_G (mq_tT lL) 224 278 [some (.retAddr 59), some (.int y)] [] h1 Q) : ∀ (n c : Nat) (y : Int32) (h1 : mq_H), c + n = 6 → x_st h tk (3467 + 3 * c) h1 → y = nI c → mq_At mq_G (mq_tT lL) 224 218 [some (.retAddr 59), some (.int y)] [] h1 Q := by
  intro n
  induction n with
  | zero =>
    intro c y h1 hc S ey
    have hc : c = 6 := by omega
    subst ey hc
    apply mq_go 20 [278]
    refine bq_t (Int32.le_refl _) ?_
    exact K _ h1 S
  | succ n ih =>
    intro c y h1 hc S ey
    subst ey
    apply mq_go 100 [218]
    refine bq_f (show ¬ nI 6 ≤ nI c from nI_ge (by omega) (by omega)) ?_
    refine gq_i (inb_nI (by omega) (by decide)) ?_
    refine x_kept (p := 3467 + 3 * c) (S.cast (by omega)) (xp_76 (by omega)) rfl (fun r0 g0 S0 => ?_)
    refine gq_i (inb_nI (by omega) (by decide)) ?_
    refine gq_i (inb_nI (by omega) (by decide)) ?_
    refine x_kept (p := 3468 + 3 * c) (S0.cast (by omega)) (xp_77 (by omega)) rfl (fun r1 g1 S1 => ?_)
    refine gq_i (inb_nI (by omega) (by decide)) ?_
    refine gq_i (inb_nI (by omega) (by decide)) ?_
    refine x_kept (p := 3469 + 3 * c) (S1.cast (by omega)) (xp_78 (by omega)) rfl (fun r2 g2 S2 => ?_)
    refine gq_i (inb_nI (by omega) (by decide)) ?_
    refine ih (c + 1) _ _ (by omega) ?_ (nI_1 _)
    exact S2.cast (by omega)
theorem x_lp_kc_280 {tk : Bool} (K : ∀ (y : Int32) h1, x_st h tk (3503) h1 → mq_At mq_G (mq_tT lL) 224 308 [some (.retAddr 59), some (.int y)] [] h1 Q) : ∀ (n c : Nat) (y : Int32) (h1 : mq_H), c + n = 18 → x_st h tk (3485 + c) h1 → y = nI c → mq_At mq_G (mq_tT lL) 224 280 [some (.retAddr 59), some (.int y)] [] h1 Q := by
  intro n
  induction n with
  | zero =>
    intro c y h1 hc S ey
    have hc : c = 18 := by omega
    subst ey hc
    apply mq_go 20 [308]
    refine bq_t (Int32.le_refl _) ?_
    exact K _ h1 S
  | succ n ih =>
    intro c y h1 hc S ey
    subst ey
    apply mq_go 100 [280]
    refine bq_f (show ¬ nI 18 ≤ nI c from nI_ge (by omega) (by omega)) ?_
    refine gq_i (inb_nI (by omega) (by decide)) ?_
    refine x_kept (p := 3485 + c) (S.cast (by omega)) (xp_79 (by omega)) rfl (fun r0 g0 S0 => ?_)
    refine gq_i (inb_nI (by omega) (by decide)) ?_
    refine ih (c + 1) _ _ (by omega) ?_ (nI_1 _)
    exact S0.cast (by omega)
theorem x_lp_kl_2 {tk : Bool} (K : ∀ (y : Int32) h1, x_st h tk (3511) h1 → mq_At mq_G (mq_tT lL) 225 30 [some (.retAddr 59), some (.int y)] [] h1 Q) : ∀ (n c : Nat) (y : Int32) (h1 : mq_H), c + n = 8 → x_st h tk (3503 + c) h1 → y = nI c → mq_At mq_G (mq_tT lL) 225 2 [some (.retAddr 59), some (.int y)] [] h1 Q := by
  intro n
  induction n with
  | zero =>
    intro c y h1 hc S ey
    have hc : c = 8 := by omega
    subst ey hc
    apply mq_go 20 [30]
    refine bq_t (Int32.le_refl _) ?_
    exact K _ h1 S
  | succ n ih =>
    intro c y h1 hc S ey
    subst ey
    apply mq_go 100 [2]
    refine bq_f (show ¬ nI 8 ≤ nI c from nI_ge (by omega) (by omega)) ?_
    refine gq_i (inb_nI (by omega) (by decide)) ?_
    refine x_kept (p := 3503 + c) (S.cast (by omega)) (xp_82 (by omega)) rfl (fun r0 g0 S0 => ?_)
    refine gq_i (inb_nI (by omega) (by decide)) ?_
    refine ih (c + 1) _ _ (by omega) ?_ (nI_1 _)
    exact S0.cast (by omega)
theorem x_lp_kl_32 {tk : Bool} (K : ∀ (y : Int32) h1, x_st h tk (4151) h1 → mq_At mq_G (mq_tT lL) 225 125 [some (.retAddr 59), some (.int y)] [] h1 Q) : ∀ (n c : Nat) (y : Int32) (h1 : mq_H), c + n = 128 → x_st h tk (3511 + 5 * c) h1 → y = nI c → mq_At mq_G (mq_tT lL) 225 32 [some (.retAddr 59), some (.int y)] [] h1 Q := by
  intro n
  induction n with
  | zero =>
    intro c y h1 hc S ey
    have hc : c = 128 := by omega
    subst ey hc
    apply mq_go 20 [125]
    refine bq_t (Int32.le_refl _) ?_
    exact K _ h1 S
  | succ n ih =>
    intro c y h1 hc S ey
    subst ey
    apply mq_go 100 [32]
    refine bq_f (show ¬ nI 128 ≤ nI c from nI_ge (by omega) (by omega)) ?_
    refine gq_i (inb_nI (by omega) (by decide)) ?_
    refine x_kept (p := 3511 + 5 * c) (S.cast (by omega)) (xp_83 (by omega)) rfl (fun r0 g0 S0 => ?_)
    refine gq_i (inb_nI (by omega) (by decide)) ?_
    refine gq_i (inb_nI (by omega) (by decide)) ?_
    refine x_kept (p := 3512 + 5 * c) (S0.cast (by omega)) (xp_84 (by omega)) rfl (fun r1 g1 S1 => ?_)
    refine gq_i (inb_nI (by omega) (by decide)) ?_
    refine gq_i (inb_nI (by omega) (by decide)) ?_
    refine x_kept (p := 3513 + 5 * c) (S1.cast (by omega)) (xp_85 (by omega)) rfl (fun r2 g2 S2 => ?_)
    refine gq_i (inb_nI (by omega) (by decide)) ?_
    refine gq_i (inb_nI (by omega) (by decide)) ?_
    refine x_kept (p := 3514 + 5 * c) (S2.cast (by omega)) (xp_86 (by omega)) rfl (fun r3 g3 S3 => ?_)
    refine gq_i (inb_nI (by omega) (by decide)) ?_
    refine gq_i (inb_nI (by omega) (by decide)) ?_
    refine x_kept (p := 3515 + 5 * c) (S3.cast (by omega)) (xp_87 (by omega)) rfl (fun r4 g4 S4 => ?_)
    refine gq_i (inb_nI (by omega) (by decide)) ?_
    refine ih (c + 1) _ _ (by omega) ?_ (nI_1 _)
    exact S4.cast (by omega)
theorem x_lp_kl_127 {tk : Bool} (K : ∀ (y : Int32) h1, x_st h tk (10551) h1 → mq_At mq_G (mq_tT lL) 225 172 [some (.retAddr 59), some (.int y)] [] h1 Q) : ∀ (n c : Nat) (y : Int32) (h1 : mq_H), c + n = 3200 → x_st h tk (4151 + 2 * c) h1 → y = nI c → mq_At mq_G (mq_tT lL) 225 127 [some (.retAddr 59), some (.int y)] [] h1 Q := by
  intro n
  induction n with
  | zero =>
    intro c y h1 hc S ey
    have hc : c = 3200 := by omega
    subst ey hc
    apply mq_go 20 [172]
    refine bq_t (Int32.le_refl _) ?_
    exact K _ h1 S
  | succ n ih =>
    intro c y h1 hc S ey
    subst ey
    apply mq_go 100 [127]
    refine bq_f (show ¬ nI 3200 ≤ nI c from nI_ge (by omega) (by omega)) ?_
    refine gq_i (inb_nI (by omega) (by decide)) ?_
    refine x_kept (p := 4151 + 2 * c) (S.cast (by omega)) (xp_88 (by omega)) rfl (fun r0 g0 S0 => ?_)
    refine gq_i (inb_nI (by omega) (by decide)) ?_
    refine gq_i (inb_nI (by omega) (by decide)) ?_
    refine x_kept (p := 4152 + 2 * c) (S0.cast (by omega)) (xp_89 (by omega)) rfl (fun r1 g1 S1 => ?_)
    refine gq_i (inb_nI (by omega) (by decide)) ?_
    refine ih (c + 1) _ _ (by omega) ?_ (nI_1 _)
    exact S1.cast (by omega)
theorem x_kC {tk : Bool} (S : x_st h tk 106 h') (hq : ∀ h2, x_st h tk 3503 h2 → Q none h2) : mq_Call mq_G (mq_tT lL) 224 [.retAddr 59] h' Q := by
  apply mq_enter 60 [14]
  refine x_kept (p := 106) S (a := 59) (k := 9) rfl rfl (fun r g S1 => ?_)
  refine x_lp_kc_14 (fun y h1 S1 => ?_) 60 0 _ _ (by omega) (S1.cast (by omega)) rfl
  apply mq_go 20 [108]
  refine x_lp_kc_108 (fun y h1 S1 => ?_) 180 0 _ _ (by omega) (S1.cast (by omega)) rfl
  apply mq_go 20 [139]
  refine x_lp_kc_139 (fun y h1 S1 => ?_) 720 0 _ _ (by omega) (S1.cast (by omega)) rfl
  apply mq_go 20 [218]
  refine x_lp_kc_218 (fun y h1 S1 => ?_) 6 0 _ _ (by omega) (S1.cast (by omega)) rfl
  apply mq_go 20 [280]
  refine x_lp_kc_280 (fun y h1 S1 => ?_) 18 0 _ _ (by omega) (S1.cast (by omega)) rfl
  apply mq_go 20 []
  exact hq _ S1
theorem x_kL {tk : Bool} (S : x_st h tk 3503 h') (hq : ∀ h2, x_st h tk 10551 h2 → Q none h2) : mq_Call mq_G (mq_tT lL) 225 [.retAddr 59] h' Q := by
  apply mq_enter 60 [2]
  refine x_lp_kl_2 (fun y h1 S1 => ?_) 8 0 _ _ (by omega) (S.cast (by omega)) rfl
  apply mq_go 20 [32]
  refine x_lp_kl_32 (fun y h1 S1 => ?_) 128 0 _ _ (by omega) (S1.cast (by omega)) rfl
  apply mq_go 20 [127]
  refine x_lp_kl_127 (fun y h1 S1 => ?_) 3200 0 _ _ (by omega) (S1.cast (by omega)) rfl
  apply mq_go 20 []
  exact hq _ S1
/-- image: nothing, or all places done -/
theorem x_image0 {x : Int32} (hx : x = 0 ∨ x = 1) (hn : x = 0 → mq_I h 59 69 = 0 → Q (some (.int 0)) (mq_setI h 59 0 0)) (hq : ∀ (tk : Bool) h2, x = (if tk then 1 else 0) → (tk = false → ¬ mq_I h 59 69 = 0) → x_st h tk 10551 h2 → Q (some (.int 1)) h2) : mq_Call mq_G (mq_tT lL) 226 [.retAddr 59, .int x] h Q := by
  have go : ∀ tk : Bool, x = (if tk then 1 else 0) → (tk = false → ¬ mq_I h 59 69 = 0) → mq_At mq_G (mq_tT lL) 226 18 [some (.retAddr 59), some (.int x), none] [] (mq_setI h 59 0 0) Q := by
    intro tk ex hh
    have hb : mq_bit x = true := by rw [ex]; cases tk <;> rfl
    apply mq_go 60 [33]
    refine gq_i hb ?_
    refine gq_i rfl ?_
    have S0 : x_st h tk 0 (mq_setI (mq_setI (mq_setI (mq_setI h 59 0 0) 59 68 x) 59 69 1) 59 70 0) := by
      have rd : ∀ b j, ¬ x_sp b j → mq_I (mq_setI (mq_setI (mq_setI (mq_setI h 59 0 0) 59 68 x) 59 69 1) 59 70 0) b j = mq_I h b j := by
        intro b j hs
        rw [ck_setI_at (fun z => hs ⟨z.1, Or.inr (Or.inr (Or.inr z.2))⟩), ck_setI_at (fun z => hs ⟨z.1, Or.inr (Or.inr (Or.inl z.2))⟩), ck_setI_at (fun z => hs ⟨z.1, Or.inr (Or.inl z.2)⟩), ck_setI_at (fun z => hs ⟨z.1, Or.inl z.2⟩)]
      refine ⟨rfl, rfl, rfl, rfl, rfl, ex, rfl, rfl, fun _ => ⟨fun b j _ hs => rd b j hs, fun b j q _ hq => by omega⟩, fun _ => ⟨fun j => rd 99 j (fun z => by have := z.1; omega), fun b j _ hs => ⟨fun q _ hq => by omega, fun _ => rd b j hs⟩⟩⟩
    show mq_At mq_G (mq_tT lL) 226 33 [some (.retAddr 59), some (.int x), none] [] (mq_setI (mq_setI (mq_setI (mq_setI h 59 0 0) 59 68 x) 59 69 1) 59 70 0) Q
    apply mq_go 60 [59]
    refine x_kept (p := 0) S0 (a := 59) (k := 1) rfl rfl (fun r g S1 => ?_)
    refine x_kept (p := 1) S1 (a := 59) (k := 2) rfl rfl (fun r g S1 => ?_)
    refine x_lp_im_59 (fun y h1 S1 => ?_) 20 0 _ _ (by omega) (S1.cast (by omega)) rfl
    apply mq_go 20 [89]
    refine x_lp_im_89 (fun y h1 S1 => ?_) 6 0 _ _ (by omega) (S1.cast (by omega)) rfl
    apply mq_go 20 [135]
    refine x_lp_im_135 (fun y h1 S1 => ?_) 24 0 _ _ (by omega) (S1.cast (by omega)) rfl
    apply mq_go 20 []
    refine x_kC S1 (fun h2 S2 => ?_)
    refine x_kL S2 (fun h3 S3 => ?_)
    exact gq_i rfl (hq tk h3 ex hh S3)
  apply mq_enter 60 [18]
  refine bn_c (fun c => ?_) (fun c => ?_)
  · exact go true (by rcases hx with z | z; exact absurd z c; exact z) (fun z => by cases z)
  · refine bn_c (fun c2 => ?_) (fun c2 => ?_)
    · exact go false c (fun _ => c2)
    · exact gq_i rfl (hn c c2)
end XM
