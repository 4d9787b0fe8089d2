def layX : Ly := [.inl (7, [some 1, some 7, some 42, some 43, some 31, some 32, some 34, some 37, some 40, some 44, none]), .inl (2, [none, none, none, some 2, some 3, some 4, some 5, some 6]), .inr (.inl (1, 4)), .inr (.inl (1, 6)), .inr (.inl (1, 6)), .inr (.inl (1, 6)), .inr (.inl (1, 6)), .inl (2, [none, none, none, some 8, some 9, some 10, some 11, some 12]), .inr (.inl (1, 4)), .inr (.inl (1, 6)), .inr (.inl (1, 6)), .inr (.inl (1, 6)), .inr (.inl (1, 6)), .inl (2, [none, none, none, some 14, some 15, some 16, some 17, some 18]), .inr (.inl (1, 4)), .inr (.inl (1, 6)), .inr (.inl (1, 6)), .inr (.inl (1, 6)), .inr (.inl (1, 6)), .inl (2, [none, none, none, some 20, some 21, some 22, some 23, some 24]), .inr (.inl (1, 4)), .inr (.inl (1, 6)), .inr (.inl (1, 6)), .inr (.inl (1, 6)), .inr (.inl (1, 6)), .inl (2, [none, none, none, some 26, some 27, some 28, some 29, some 30]), .inr (.inl (1, 4)), .inr (.inl (1, 6)), .inr (.inl (1, 6)), .inr (.inl (1, 6)), .inr (.inl (1, 6)), .inl (1, [some 32, some 25, none, none, none, none, none, none, none]), .inl (5, [some 33, none]), .inr (.inl (0, 160)), .inl (0, [some 35, some 36, none, none]), .inr (.inl (1, 10)), .inr (.inl (1, 190)), .inl (6, [some 38, some 39, none]), .inr (.inl (1, 6)), .inr (.inl (2, 6)), .inl (4, [some 41, none]), .inr (.inl (1, 6)), .inr (.inr (3, [13, 19])), .inr (.inl (2, 2)), .inr (.inr (4, [45, 47, 49, 51])), .inl (3, [some 46, none, none]), .inr (.inl (1, 40)), .inl (3, [some 48, none, none]), .inr (.inl (1, 40)), .inl (3, [some 50, none, none]), .inr (.inl (1, 40)), .inl (3, [some 52, none, none]), .inr (.inl (1, 40))]
def layM : Ly := [.inl (8, [some 1, none, none, some 2, none, none, none, none, some 3, none, none, none, none, none, none, none, none, some 4, some 5, some 6, none, some 7, none, some 8, none, some 9, none, some 10, some 11, some 12, some 13, none]), .inr (.inl (1, 116)), .inr (.inl (1, 29)), .inr (.inl (1, 160)), .inr (.inl (1, 7)), .inr (.inl (1, 28)), .inr (.inl (1, 6)), .inr (.inl (1, 10)), .inr (.inl (1, 12)), .inr (.inl (1, 5)), .inr (.inl (2, 2)), .inr (.inl (1, 4)), .inr (.inl (1, 4)), .inr (.inl (1, 160))]
def IsR (a : Nat) : Prop := layX[a]? = some (.inl (2, [none, none, none, some (a + 1), some (a + 2), some (a + 3), some (a + 4), some (a + 5)])) ∧ layX[a + 1]? = some (.inr (.inl (1, 4))) ∧ layX[a + 2]? = some (.inr (.inl (1, 6))) ∧ layX[a + 3]? = some (.inr (.inl (1, 6))) ∧ layX[a + 4]? = some (.inr (.inl (1, 6))) ∧ layX[a + 5]? = some (.inr (.inl (1, 6)))
def IsS (a : Nat) : Prop := layX[a]? = some (.inl (3, [some (a + 1), none, none])) ∧ layX[a + 1]? = some (.inr (.inl (1, 40)))
theorem isR1 : IsR 1 := ⟨rfl, rfl, rfl, rfl, rfl, rfl⟩
theorem isR7 : IsR 7 := ⟨rfl, rfl, rfl, rfl, rfl, rfl⟩
theorem isR13 : IsR 13 := ⟨rfl, rfl, rfl, rfl, rfl, rfl⟩
theorem isR19 : IsR 19 := ⟨rfl, rfl, rfl, rfl, rfl, rfl⟩
theorem isR25 : IsR 25 := ⟨rfl, rfl, rfl, rfl, rfl, rfl⟩
theorem isS45 : IsS 45 := ⟨rfl, rfl⟩
theorem isS47 : IsS 47 := ⟨rfl, rfl⟩
theorem isS49 : IsS 49 := ⟨rfl, rfl⟩
theorem isS51 : IsS 51 := ⟨rfl, rfl⟩
theorem rxR {i : Int32} {q : Nat} (h : rx [13, 19] i = some q) : IsR q := by
  have h2 := List.mem_of_getElem? (rx_in h).2
  simp only [List.mem_cons, List.not_mem_nil, or_false] at h2
  rcases h2 with rfl | rfl
  · exact isR13
  · exact isR19
theorem rxS {i : Int32} {q : Nat} (h : rx [45, 47, 49, 51] i = some q) : IsS q := by
  have h2 := List.mem_of_getElem? (rx_in h).2
  simp only [List.mem_cons, List.not_mem_nil, or_false] at h2
  rcases h2 with rfl | rfl | rfl | rfl
  · exact isS45
  · exact isS47
  · exact isS49
  · exact isS51
theorem rz0 : rz 0 = some 0 := by decide
theorem rz1 : rz 1 = some 1 := by decide
theorem rc32 : rc 32 = some 32 := by decide
