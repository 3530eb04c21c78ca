/-! sheets that change -/
section
variable {h h2 : Hp}
theorem ai_sh (X : AI h) (f : ∀ q, (q < 105 ∨ 113 ≤ q) → q ≠ 122 → q ≠ 123 → q ≠ 124 → q ≠ 125 → h2 q = h q) (S : SH h2) : AI h2 := by
  obtain ⟨⟨x1, x2, x3, x5, x6⟩, y⟩ := X
  have g : ∀ q, q < 105 → h2 q = h q := fun q hq => f q (Or.inl hq) (by omega) (by omega) (by omega) (by omega)
  have g2 : ∀ q, 113 ≤ q → q < 122 → h2 q = h q := fun q hq hr => f q (Or.inr hq) (by omega) (by omega) (by omega) (by omega)
  refine ⟨⟨?_, ?_, ?_, ?_, S⟩, ?_⟩
  · rw [g2 115 (by decide) (by decide)]
    exact x1.fr (fun q hq => g _ (by unfold kp at hq; omega))
  · rw [g2 116 (by decide) (by decide), g 0 (by decide)]
    exact x2.imp id (fun y => y.fr (fun q hq => g _ (by unfold kp at hq; omega)))
  · rw [g2 114 (by decide) (by decide), g 0 (by decide)]; exact x3
  · unfold TR
    rw [g2 114 (by decide) (by decide), g 103 (by decide), g 104 (by decide), g2 121 (by decide) (by decide)]; exact x5
  · intro k hk
    rw [g2 117 (by decide) (by decide), g2 113 (by decide) (by decide)]
    exact y k hk
end
