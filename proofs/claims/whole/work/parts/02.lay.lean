/-! THE DESK'S MEMORY: whole numbers by kind of cell, number of the cell and place; the one row of longs -/
abbrev Mm : Type := (Nat → Nat → Nat → Int32) × (Nat → Int64)
def rd (M : Mm) (t k j : Nat) : Int32 := M.1 t k j
def rdL (M : Mm) (j : Nat) : Int64 := M.2 j
def wr (M : Mm) (t k j : Nat) (v : Int32) : Mm := (fun a b i => if a = t ∧ b = k ∧ i = j then v else M.1 a b i, M.2)
def wrL (M : Mm) (j : Nat) (v : Int64) : Mm := (M.1, fun i => if i = j then v else M.2 i)
def wrA (M : Mm) (t k : Nat) (f : Nat → Int32) : Mm := (fun a b i => if a = t ∧ b = k then f i else M.1 a b i, M.2)
/-- the tables' numbers, the array classes, the addresses by kind and number, the cells that may be written -/
abbrev GT : Type := va_G × (Nat → ClassId) × (Nat → Nat → Nat) × (Addr → Prop)
def adr (G : GT) (t k : Nat) : Nat := G.2.2.1 t k
def gcy (G : GT) (i : Nat) : ClassId := G.2.1 i
def gA (G : GT) : Addr → Prop := G.2.2.2
def tysL (G : GT) : List (ClassId × FieldType) := [(gcy G 0, .int), (gcy G 1, .char), (gcy G 2, .long), (gcy G 3, .object RX0), (gcy G 4, .array .int)]
/-- kind of cell: 1 ints, 2 chars, 3 longs, 4 books, 5 rows of ints; its length -/
def tagT : List (Nat × Nat × Nat) := [(0, 0, 0), (1, 0, 0), (2, 0, 0), (3, 0, 0), (4, 0, 0), (5, 0, 0), (6, 0, 0), (7, 0, 0), (21, 1, 6), (22, 1, 6), (23, 1, 6), (24, 1, 6), (26, 1, 4), (27, 1, 4), (28, 1, 4), (29, 1, 4), (30, 1, 3), (33, 1, 8), (34, 1, 8), (36, 1, 24), (37, 1, 24), (38, 1, 24), (40, 4, 7), (60, 1, 24), (61, 1, 24), (62, 3, 24), (80, 2, 60), (84, 2, 20), (85, 1, 20), (86, 5, 20), (100, 1, 12), (101, 5, 12), (121, 1, 8), (122, 1, 8), (123, 1, 24), (124, 5, 8), (125, 5, 8), (126, 5, 8), (127, 5, 8), (128, 5, 8), (129, 1, 6), (130, 1, 8), (131, 5, 8), (132, 1, 4), (133, 1, 8), (134, 1, 24), (160, 1, 136), (161, 1, 816), (162, 1, 136), (163, 1, 136), (166, 1, 60), (171, 1, 3), (172, 1, 24), (173, 1, 12), (174, 1, 48), (286, 1, 3), (301, 1, 4), (324, 1, 6), (325, 1, 6), (326, 1, 6), (327, 1, 6), (328, 1, 6), (331, 1, 4)]
def kindT (t : Nat) : Nat := ((tagT.lookup t).getD (0, 0)).1
def lenT (t : Nat) : Nat := ((tagT.lookup t).getD (0, 0)).2
theorem kt21 : kindT 21 = 1 := by decide +kernel
theorem lt21 : lenT 21 = 6 := by decide +kernel
theorem kt22 : kindT 22 = 1 := by decide +kernel
theorem lt22 : lenT 22 = 6 := by decide +kernel
theorem kt23 : kindT 23 = 1 := by decide +kernel
theorem lt23 : lenT 23 = 6 := by decide +kernel
theorem kt24 : kindT 24 = 1 := by decide +kernel
theorem lt24 : lenT 24 = 6 := by decide +kernel
theorem kt26 : kindT 26 = 1 := by decide +kernel
theorem lt26 : lenT 26 = 4 := by decide +kernel
theorem kt27 : kindT 27 = 1 := by decide +kernel
theorem lt27 : lenT 27 = 4 := by decide +kernel
theorem kt28 : kindT 28 = 1 := by decide +kernel
theorem lt28 : lenT 28 = 4 := by decide +kernel
theorem kt29 : kindT 29 = 1 := by decide +kernel
theorem lt29 : lenT 29 = 4 := by decide +kernel
theorem kt30 : kindT 30 = 1 := by decide +kernel
theorem lt30 : lenT 30 = 3 := by decide +kernel
theorem kt33 : kindT 33 = 1 := by decide +kernel
theorem lt33 : lenT 33 = 8 := by decide +kernel
theorem kt34 : kindT 34 = 1 := by decide +kernel
theorem lt34 : lenT 34 = 8 := by decide +kernel
theorem kt36 : kindT 36 = 1 := by decide +kernel
theorem lt36 : lenT 36 = 24 := by decide +kernel
theorem kt37 : kindT 37 = 1 := by decide +kernel
theorem lt37 : lenT 37 = 24 := by decide +kernel
theorem kt38 : kindT 38 = 1 := by decide +kernel
theorem lt38 : lenT 38 = 24 := by decide +kernel
theorem kt40 : kindT 40 = 4 := by decide +kernel
theorem lt40 : lenT 40 = 7 := by decide +kernel
theorem kt60 : kindT 60 = 1 := by decide +kernel
theorem lt60 : lenT 60 = 24 := by decide +kernel
theorem kt61 : kindT 61 = 1 := by decide +kernel
theorem lt61 : lenT 61 = 24 := by decide +kernel
theorem kt62 : kindT 62 = 3 := by decide +kernel
theorem lt62 : lenT 62 = 24 := by decide +kernel
theorem kt80 : kindT 80 = 2 := by decide +kernel
theorem lt80 : lenT 80 = 60 := by decide +kernel
theorem kt84 : kindT 84 = 2 := by decide +kernel
theorem lt84 : lenT 84 = 20 := by decide +kernel
theorem kt85 : kindT 85 = 1 := by decide +kernel
theorem lt85 : lenT 85 = 20 := by decide +kernel
theorem kt86 : kindT 86 = 5 := by decide +kernel
theorem lt86 : lenT 86 = 20 := by decide +kernel
theorem kt100 : kindT 100 = 1 := by decide +kernel
theorem lt100 : lenT 100 = 12 := by decide +kernel
theorem kt101 : kindT 101 = 5 := by decide +kernel
theorem lt101 : lenT 101 = 12 := by decide +kernel
theorem kt121 : kindT 121 = 1 := by decide +kernel
theorem lt121 : lenT 121 = 8 := by decide +kernel
theorem kt122 : kindT 122 = 1 := by decide +kernel
theorem lt122 : lenT 122 = 8 := by decide +kernel
theorem kt123 : kindT 123 = 1 := by decide +kernel
theorem lt123 : lenT 123 = 24 := by decide +kernel
theorem kt124 : kindT 124 = 5 := by decide +kernel
theorem lt124 : lenT 124 = 8 := by decide +kernel
theorem kt125 : kindT 125 = 5 := by decide +kernel
theorem lt125 : lenT 125 = 8 := by decide +kernel
theorem kt126 : kindT 126 = 5 := by decide +kernel
theorem lt126 : lenT 126 = 8 := by decide +kernel
theorem kt127 : kindT 127 = 5 := by decide +kernel
theorem lt127 : lenT 127 = 8 := by decide +kernel
theorem kt128 : kindT 128 = 5 := by decide +kernel
theorem lt128 : lenT 128 = 8 := by decide +kernel
theorem kt129 : kindT 129 = 1 := by decide +kernel
theorem lt129 : lenT 129 = 6 := by decide +kernel
theorem kt130 : kindT 130 = 1 := by decide +kernel
theorem lt130 : lenT 130 = 8 := by decide +kernel
theorem kt131 : kindT 131 = 5 := by decide +kernel
theorem lt131 : lenT 131 = 8 := by decide +kernel
theorem kt132 : kindT 132 = 1 := by decide +kernel
theorem lt132 : lenT 132 = 4 := by decide +kernel
theorem kt133 : kindT 133 = 1 := by decide +kernel
theorem lt133 : lenT 133 = 8 := by decide +kernel
theorem kt134 : kindT 134 = 1 := by decide +kernel
theorem lt134 : lenT 134 = 24 := by decide +kernel
theorem kt160 : kindT 160 = 1 := by decide +kernel
theorem lt160 : lenT 160 = 136 := by decide +kernel
theorem kt161 : kindT 161 = 1 := by decide +kernel
theorem lt161 : lenT 161 = 816 := by decide +kernel
theorem kt162 : kindT 162 = 1 := by decide +kernel
theorem lt162 : lenT 162 = 136 := by decide +kernel
theorem kt163 : kindT 163 = 1 := by decide +kernel
theorem lt163 : lenT 163 = 136 := by decide +kernel
theorem kt166 : kindT 166 = 1 := by decide +kernel
theorem lt166 : lenT 166 = 60 := by decide +kernel
theorem kt171 : kindT 171 = 1 := by decide +kernel
theorem lt171 : lenT 171 = 3 := by decide +kernel
theorem kt172 : kindT 172 = 1 := by decide +kernel
theorem lt172 : lenT 172 = 24 := by decide +kernel
theorem kt173 : kindT 173 = 1 := by decide +kernel
theorem lt173 : lenT 173 = 12 := by decide +kernel
theorem kt174 : kindT 174 = 1 := by decide +kernel
theorem lt174 : lenT 174 = 48 := by decide +kernel
theorem kt286 : kindT 286 = 1 := by decide +kernel
theorem lt286 : lenT 286 = 3 := by decide +kernel
theorem kt301 : kindT 301 = 1 := by decide +kernel
theorem lt301 : lenT 301 = 4 := by decide +kernel
theorem kt324 : kindT 324 = 1 := by decide +kernel
theorem lt324 : lenT 324 = 6 := by decide +kernel
theorem kt325 : kindT 325 = 1 := by decide +kernel
theorem lt325 : lenT 325 = 6 := by decide +kernel
theorem kt326 : kindT 326 = 1 := by decide +kernel
theorem lt326 : lenT 326 = 6 := by decide +kernel
theorem kt327 : kindT 327 = 1 := by decide +kernel
theorem lt327 : lenT 327 = 6 := by decide +kernel
theorem kt328 : kindT 328 = 1 := by decide +kernel
theorem lt328 : lenT 328 = 6 := by decide +kernel
theorem kt331 : kindT 331 = 1 := by decide +kernel
theorem lt331 : lenT 331 = 4 := by decide +kernel
def wl : List (Nat × Nat) := [(0, 0), (0, 1), (0, 2), (0, 3), (0, 4), (0, 5), (0, 6), (0, 7), (0, 8), (1, 0), (2, 0), (3, 0), (4, 0), (5, 0), (6, 0), (7, 0), (21, 0), (21, 1), (21, 2), (21, 3), (21, 4), (21, 5), (21, 6), (21, 7), (21, 8), (22, 0), (22, 1), (22, 2), (22, 3), (22, 4), (22, 5), (22, 6), (22, 7), (22, 8), (23, 0), (23, 1), (23, 2), (23, 3), (23, 4), (23, 5), (23, 6), (23, 7), (23, 8), (24, 0), (24, 1), (24, 2), (24, 3), (24, 4), (24, 5), (24, 6), (24, 7), (24, 8), (26, 0), (26, 1), (26, 2), (26, 3), (26, 4), (26, 5), (26, 6), (26, 7), (26, 8), (27, 0), (27, 1), (27, 2), (27, 3), (27, 4), (27, 5), (27, 6), (27, 7), (27, 8), (28, 0), (28, 1), (28, 2), (28, 3), (28, 4), (28, 5), (28, 6), (28, 7), (28, 8), (29, 0), (29, 1), (29, 2), (29, 3), (29, 4), (29, 5), (29, 6), (29, 7), (29, 8), (30, 0), (30, 1), (30, 2), (30, 3), (30, 4), (30, 5), (30, 6), (30, 7), (30, 8), (33, 0), (33, 1), (33, 2), (33, 3), (33, 4), (33, 5), (33, 6), (33, 7), (33, 8), (34, 0), (34, 1), (34, 2), (34, 3), (34, 4), (34, 5), (34, 6), (34, 7), (34, 8), (36, 0), (36, 1), (36, 2), (36, 3), (36, 4), (36, 5), (36, 6), (36, 7), (36, 8), (37, 0), (37, 1), (37, 2), (37, 3), (37, 4), (37, 5), (37, 6), (37, 7), (37, 8), (38, 0), (38, 1), (38, 2), (38, 3), (38, 4), (38, 5), (38, 6), (38, 7), (38, 8), (40, 0), (60, 0), (61, 0), (62, 0), (80, 0), (84, 0), (85, 0), (86, 0), (100, 0), (101, 0), (121, 0), (122, 0), (123, 0), (124, 0), (125, 0), (126, 0), (127, 0), (128, 0), (129, 0), (130, 0), (131, 0), (132, 0), (133, 0), (134, 0), (160, 0), (161, 0), (162, 0), (163, 0), (166, 0), (171, 0), (172, 0), (173, 0), (174, 0), (286, 0), (286, 1), (286, 2), (286, 3), (286, 4), (286, 5), (286, 6), (286, 7), (286, 8), (286, 9), (286, 10), (286, 11), (286, 12), (286, 13), (286, 14), (286, 15), (286, 16), (286, 17), (286, 18), (286, 19), (301, 0), (301, 1), (301, 2), (301, 3), (301, 4), (301, 5), (301, 6), (301, 7), (301, 8), (301, 9), (301, 10), (301, 11), (324, 0), (324, 1), (324, 2), (324, 3), (324, 4), (324, 5), (324, 6), (324, 7), (325, 0), (325, 1), (325, 2), (325, 3), (325, 4), (325, 5), (325, 6), (325, 7), (326, 0), (326, 1), (326, 2), (326, 3), (326, 4), (326, 5), (326, 6), (326, 7), (327, 0), (327, 1), (327, 2), (327, 3), (327, 4), (327, 5), (327, 6), (327, 7), (328, 0), (328, 1), (328, 2), (328, 3), (328, 4), (328, 5), (328, 6), (328, 7), (331, 0), (331, 1), (331, 2), (331, 3), (331, 4), (331, 5), (331, 6), (331, 7)]
theorem mw0 : ∀ k, k < 9 → (0, k) ∈ wl := by decide +kernel
theorem mw1 : ∀ k, k < 1 → (1, k) ∈ wl := by decide +kernel
theorem mw2 : ∀ k, k < 1 → (2, k) ∈ wl := by decide +kernel
theorem mw3 : ∀ k, k < 1 → (3, k) ∈ wl := by decide +kernel
theorem mw4 : ∀ k, k < 1 → (4, k) ∈ wl := by decide +kernel
theorem mw5 : ∀ k, k < 1 → (5, k) ∈ wl := by decide +kernel
theorem mw6 : ∀ k, k < 1 → (6, k) ∈ wl := by decide +kernel
theorem mw7 : ∀ k, k < 1 → (7, k) ∈ wl := by decide +kernel
theorem mw21 : ∀ k, k < 9 → (21, k) ∈ wl := by decide +kernel
theorem mw22 : ∀ k, k < 9 → (22, k) ∈ wl := by decide +kernel
theorem mw23 : ∀ k, k < 9 → (23, k) ∈ wl := by decide +kernel
theorem mw24 : ∀ k, k < 9 → (24, k) ∈ wl := by decide +kernel
theorem mw26 : ∀ k, k < 9 → (26, k) ∈ wl := by decide +kernel
theorem mw27 : ∀ k, k < 9 → (27, k) ∈ wl := by decide +kernel
theorem mw28 : ∀ k, k < 9 → (28, k) ∈ wl := by decide +kernel
theorem mw29 : ∀ k, k < 9 → (29, k) ∈ wl := by decide +kernel
theorem mw30 : ∀ k, k < 9 → (30, k) ∈ wl := by decide +kernel
theorem mw33 : ∀ k, k < 9 → (33, k) ∈ wl := by decide +kernel
theorem mw34 : ∀ k, k < 9 → (34, k) ∈ wl := by decide +kernel
theorem mw36 : ∀ k, k < 9 → (36, k) ∈ wl := by decide +kernel
theorem mw37 : ∀ k, k < 9 → (37, k) ∈ wl := by decide +kernel
theorem mw38 : ∀ k, k < 9 → (38, k) ∈ wl := by decide +kernel
theorem mw40 : ∀ k, k < 1 → (40, k) ∈ wl := by decide +kernel
theorem mw60 : ∀ k, k < 1 → (60, k) ∈ wl := by decide +kernel
theorem mw61 : ∀ k, k < 1 → (61, k) ∈ wl := by decide +kernel
theorem mw62 : ∀ k, k < 1 → (62, k) ∈ wl := by decide +kernel
theorem mw80 : ∀ k, k < 1 → (80, k) ∈ wl := by decide +kernel
theorem mw84 : ∀ k, k < 1 → (84, k) ∈ wl := by decide +kernel
theorem mw85 : ∀ k, k < 1 → (85, k) ∈ wl := by decide +kernel
theorem mw86 : ∀ k, k < 1 → (86, k) ∈ wl := by decide +kernel
theorem mw100 : ∀ k, k < 1 → (100, k) ∈ wl := by decide +kernel
theorem mw101 : ∀ k, k < 1 → (101, k) ∈ wl := by decide +kernel
theorem mw121 : ∀ k, k < 1 → (121, k) ∈ wl := by decide +kernel
theorem mw122 : ∀ k, k < 1 → (122, k) ∈ wl := by decide +kernel
theorem mw123 : ∀ k, k < 1 → (123, k) ∈ wl := by decide +kernel
theorem mw124 : ∀ k, k < 1 → (124, k) ∈ wl := by decide +kernel
theorem mw125 : ∀ k, k < 1 → (125, k) ∈ wl := by decide +kernel
theorem mw126 : ∀ k, k < 1 → (126, k) ∈ wl := by decide +kernel
theorem mw127 : ∀ k, k < 1 → (127, k) ∈ wl := by decide +kernel
theorem mw128 : ∀ k, k < 1 → (128, k) ∈ wl := by decide +kernel
theorem mw129 : ∀ k, k < 1 → (129, k) ∈ wl := by decide +kernel
theorem mw130 : ∀ k, k < 1 → (130, k) ∈ wl := by decide +kernel
theorem mw131 : ∀ k, k < 1 → (131, k) ∈ wl := by decide +kernel
theorem mw132 : ∀ k, k < 1 → (132, k) ∈ wl := by decide +kernel
theorem mw133 : ∀ k, k < 1 → (133, k) ∈ wl := by decide +kernel
theorem mw134 : ∀ k, k < 1 → (134, k) ∈ wl := by decide +kernel
theorem mw160 : ∀ k, k < 1 → (160, k) ∈ wl := by decide +kernel
theorem mw161 : ∀ k, k < 1 → (161, k) ∈ wl := by decide +kernel
theorem mw162 : ∀ k, k < 1 → (162, k) ∈ wl := by decide +kernel
theorem mw163 : ∀ k, k < 1 → (163, k) ∈ wl := by decide +kernel
theorem mw166 : ∀ k, k < 1 → (166, k) ∈ wl := by decide +kernel
theorem mw171 : ∀ k, k < 1 → (171, k) ∈ wl := by decide +kernel
theorem mw172 : ∀ k, k < 1 → (172, k) ∈ wl := by decide +kernel
theorem mw173 : ∀ k, k < 1 → (173, k) ∈ wl := by decide +kernel
theorem mw174 : ∀ k, k < 1 → (174, k) ∈ wl := by decide +kernel
theorem mw286 : ∀ k, k < 20 → (286, k) ∈ wl := by decide +kernel
theorem mw301 : ∀ k, k < 12 → (301, k) ∈ wl := by decide +kernel
theorem mw324 : ∀ k, k < 8 → (324, k) ∈ wl := by decide +kernel
theorem mw325 : ∀ k, k < 8 → (325, k) ∈ wl := by decide +kernel
theorem mw326 : ∀ k, k < 8 → (326, k) ∈ wl := by decide +kernel
theorem mw327 : ∀ k, k < 8 → (327, k) ∈ wl := by decide +kernel
theorem mw328 : ∀ k, k < 8 → (328, k) ∈ wl := by decide +kernel
theorem mw331 : ∀ k, k < 8 → (331, k) ∈ wl := by decide +kernel
/-- an array's cell -/
def arrF (G : GT) (t : Nat) (f : Nat → Int32) (g : Nat → Int64) : va_E :=
  match kindT t with
  | 1 => .inl (gcy G 0, lenT t, .inl f)
  | 2 => .inl (gcy G 1, lenT t, .inl f)
  | 3 => .inl (gcy G 2, lenT t, .inr (.inl g))
  | 4 => .inl (gcy G 3, lenT t, .inr (.inr (.inr (.inr (fun j => some (adr G 0 (2 + j)))))))
  | _ => .inl (gcy G 4, lenT t, .inr (.inr (.inr (.inr (fun j => some (adr G (t + 200) j))))))
def objF0 (G : GT) (k : Nat) (f : Nat → Int32) : List Value := [.int (f 0), .ref (adr G 21 k), .ref (adr G 22 k), .ref (adr G 23 k), .ref (adr G 24 k), .int (f 5), .ref (adr G 26 k), .ref (adr G 27 k), .ref (adr G 28 k), .ref (adr G 29 k), .ref (adr G 30 k), .int (f 11), .int (f 12), .ref (adr G 33 k), .ref (adr G 34 k), .int (f 15), .ref (adr G 36 k), .ref (adr G 37 k), .ref (adr G 38 k)]
def objF1 (G : GT) (k : Nat) (f : Nat → Int32) : List Value := [.ref (adr G 40 k), .int (f 1), .int (f 2)]
def objF2 (G : GT) (k : Nat) (f : Nat → Int32) : List Value := [.ref (adr G 60 k), .ref (adr G 61 k), .ref (adr G 62 k)]
def objF3 (G : GT) (k : Nat) (f : Nat → Int32) : List Value := [.ref (adr G 80 k), .int (f 1), .int (f 2), .int (f 3), .ref (adr G 84 k), .ref (adr G 85 k), .ref (adr G 86 k)]
def objF4 (G : GT) (k : Nat) (f : Nat → Int32) : List Value := [.ref (adr G 100 k), .ref (adr G 101 k)]
def objF5 (G : GT) (k : Nat) (f : Nat → Int32) : List Value := [.ref (adr G 0 0), .ref (adr G 121 k), .ref (adr G 122 k), .ref (adr G 123 k), .ref (adr G 124 k), .ref (adr G 125 k), .ref (adr G 126 k), .ref (adr G 127 k), .ref (adr G 128 k), .ref (adr G 129 k), .ref (adr G 130 k), .ref (adr G 131 k), .ref (adr G 132 k), .ref (adr G 133 k), .ref (adr G 134 k), .ref (adr G 2 0)]
def objF6 (G : GT) (k : Nat) (f : Nat → Int32) : List Value := [.ref (adr G 5 0), .ref (adr G 0 0), .ref (adr G 0 1), .ref (adr G 1 0), .ref (adr G 3 0), .ref (adr G 4 0), .int (f 6), .int (f 7)]
def objF7 (G : GT) (k : Nat) (f : Nat → Int32) : List Value := [.ref (adr G 160 k), .ref (adr G 161 k), .ref (adr G 162 k), .ref (adr G 163 k), .int (f 4), .int (f 5), .ref (adr G 166 k), .int (f 7), .int (f 8), .int (f 9), .int (f 10), .ref (adr G 171 k), .ref (adr G 172 k), .ref (adr G 173 k), .ref (adr G 174 k)]
/-- what a cell holds -/
def cellF (G : GT) (t k : Nat) (f : Nat → Int32) (g : Nat → Int64) : va_E :=
  match t with
  | 0 => .inr (0, objF0 G k f)
  | 1 => .inr (1, objF1 G k f)
  | 2 => .inr (2, objF2 G k f)
  | 3 => .inr (3, objF3 G k f)
  | 4 => .inr (4, objF4 G k f)
  | 5 => .inr (5, objF5 G k f)
  | 6 => .inr (6, objF6 G k f)
  | 7 => .inr (7, objF7 G k f)
  | t => arrF G t f g
def wld (G : GT) (M : Mm) : va_W := wl.map (fun q => (adr G q.1 q.2, cellF G q.1 q.2 (M.1 q.1 q.2) M.2))
theorem cellF_arr {G : GT} {t k : Nat} {f : Nat → Int32} {g : Nat → Int64} (h : 20 ≤ t) : cellF G t k f g = arrF G t f g := by
  unfold cellF
  split <;> first | omega | rfl
theorem kind_ge {t n : Nat} (h : kindT t = n) (hn : 0 < n) : 20 ≤ t := by
  rcases Nat.lt_or_ge t 20 with q | q
  · have : ∀ t, t < 20 → kindT t = 0 := by decide +kernel
    have := this t q
    omega
  · exact q
theorem cellF_1 {G : GT} {t k : Nat} {f : Nat → Int32} {g : Nat → Int64} (h : kindT t = 1) : cellF G t k f g = .inl (gcy G 0, lenT t, .inl f) := by
  rw [cellF_arr (kind_ge h (by decide))]; unfold arrF; simp only [h]
theorem cellF_2 {G : GT} {t k : Nat} {f : Nat → Int32} {g : Nat → Int64} (h : kindT t = 2) : cellF G t k f g = .inl (gcy G 1, lenT t, .inl f) := by
  rw [cellF_arr (kind_ge h (by decide))]; unfold arrF; simp only [h]
theorem cellF_3 {G : GT} {t k : Nat} {f : Nat → Int32} {g : Nat → Int64} (h : kindT t = 3) : cellF G t k f g = .inl (gcy G 2, lenT t, .inr (.inl g)) := by
  rw [cellF_arr (kind_ge h (by decide))]; unfold arrF; simp only [h]
theorem cellF_4 {G : GT} {t k : Nat} {f : Nat → Int32} {g : Nat → Int64} (h : kindT t = 4) : cellF G t k f g = .inl (gcy G 3, lenT t, .inr (.inr (.inr (.inr (fun j => some (adr G 0 (2 + j))))))) := by
  rw [cellF_arr (kind_ge h (by decide))]; unfold arrF; simp only [h]
theorem cellF_5 {G : GT} {t k : Nat} {f : Nat → Int32} {g : Nat → Int64} (h : kindT t = 5) : cellF G t k f g = .inl (gcy G 4, lenT t, .inr (.inr (.inr (.inr (fun j => some (adr G (t + 200) j)))))) := by
  rw [cellF_arr (kind_ge h (by decide))]; unfold arrF; simp only [h]
theorem cellF_g {G : GT} {t k : Nat} {f : Nat → Int32} {g g' : Nat → Int64} (h : ¬ kindT t = 3) : cellF G t k f g = cellF G t k f g' := by
  unfold cellF
  split <;> first | rfl | skip
  unfold arrF
  split <;> first | rfl | (exact absurd (by assumption) h)
theorem wld_get {G : GT} {t k : Nat} (M : Mm) (h : (t, k) ∈ wl) : ∃ q0 : Nat, wl[q0]? = some (t, k) ∧ (wld G M)[q0]? = some (adr G t k, cellF G t k (M.1 t k) M.2) := by
  obtain ⟨i, hi⟩ := List.getElem?_of_mem h
  refine ⟨i, hi, ?_⟩
  unfold wld
  rw [List.getElem?_map, hi]
  rfl
theorem wld_set {G : GT} {M M' : Mm} {t k q0 : Nat} {e : va_E} (hD : va_D (gA G) (wld G M)) (hq : wl[q0]? = some (t, k)) (he : e = cellF G t k (M'.1 t k) M'.2)
    (ho : ∀ t' k', ¬ (t' = t ∧ k' = k) → (t', k') ∈ wl → cellF G t' k' (M'.1 t' k') M'.2 = cellF G t' k' (M.1 t' k') M.2) : (wld G M).set q0 (adr G t k, e) = wld G M' := by
  have hlen : (wld G M).length = wl.length := by unfold wld; rw [List.length_map]
  have hql : q0 < wl.length := (List.getElem?_eq_some_iff.mp hq).1
  have hget : ∀ (M : Mm) (i : Nat), (wld G M)[i]? = (wl[i]?).map (fun q => (adr G q.1 q.2, cellF G q.1 q.2 (M.1 q.1 q.2) M.2)) := fun M i => by unfold wld; rw [List.getElem?_map]
  apply List.ext_getElem?
  intro i
  by_cases hi : i = q0
  · subst hi
    rw [List.getElem?_set_self (by omega), hget, hq, he]
    rfl
  · rw [List.getElem?_set_ne (Ne.symm hi), hget, hget]
    cases hw : wl[i]? with
    | none => rfl
    | some q =>
      obtain ⟨t', k'⟩ := q
      have hne : ¬ (t' = t ∧ k' = k) := by
        rintro ⟨rfl, rfl⟩
        refine hi (hD.1 i q0 (adr G t' k', cellF G t' k' (M.1 t' k') M.2) (adr G t' k', cellF G t' k' (M.1 t' k') M.2) ?_ ?_ rfl)
        · rw [hget, hw]; rfl
        · rw [hget, hq]; rfl
      show some (adr G t' k', cellF G t' k' (M.1 t' k') M.2) = some (adr G t' k', cellF G t' k' (M'.1 t' k') M'.2)
      rw [ho t' k' hne (List.mem_of_getElem? hw)]
theorem wr_same {M : Mm} {t k j : Nat} {v : Int32} : (wr M t k j v).1 t k = upd (M.1 t k) j v := by
  funext i
  show (if t = t ∧ k = k ∧ i = j then v else M.1 t k i) = if i = j then v else M.1 t k i
  by_cases h : i = j <;> simp [h]
theorem wr_other {M : Mm} {t k j t' k' : Nat} {v : Int32} (h : ¬ (t' = t ∧ k' = k)) : (wr M t k j v).1 t' k' = M.1 t' k' := by
  funext i
  show (if t' = t ∧ k' = k ∧ i = j then v else M.1 t' k' i) = M.1 t' k' i
  rw [if_neg]
  rintro ⟨a, b, -⟩
  exact h ⟨a, b⟩
theorem wrA_same {M : Mm} {t k : Nat} {f : Nat → Int32} : (wrA M t k f).1 t k = f := by
  funext i
  show (if t = t ∧ k = k then f i else M.1 t k i) = f i
  simp
theorem wrA_other {M : Mm} {t k t' k' : Nat} {f : Nat → Int32} (h : ¬ (t' = t ∧ k' = k)) : (wrA M t k f).1 t' k' = M.1 t' k' := by
  funext i
  show (if t' = t ∧ k' = k then f i else M.1 t' k' i) = M.1 t' k' i
  rw [if_neg h]
theorem wld_wr {G : GT} {M : Mm} {t k q0 j : Nat} {v : Int32} {e : va_E} (hD : va_D (gA G) (wld G M)) (hq : wl[q0]? = some (t, k)) (he : e = cellF G t k (upd (M.1 t k) j v) M.2) : (wld G M).set q0 (adr G t k, e) = wld G (wr M t k j v) :=
  wld_set hD hq (by rw [he, wr_same]; rfl) (fun t' k' hne _ => by rw [wr_other hne]; rfl)
theorem wld_wrA {G : GT} {M : Mm} {t k q0 : Nat} {f : Nat → Int32} {e : va_E} (hD : va_D (gA G) (wld G M)) (hq : wl[q0]? = some (t, k)) (he : e = cellF G t k f M.2) : (wld G M).set q0 (adr G t k, e) = wld G (wrA M t k f) :=
  wld_set hD hq (by rw [he, wrA_same]; rfl) (fun t' k' hne _ => by rw [wrA_other hne]; rfl)
theorem only3 : ∀ q ∈ wl, kindT q.1 = 3 → q = (62, 0) := by decide +kernel
theorem wld_wrL {G : GT} {M : Mm} {q0 j : Nat} {v : Int64} {e : va_E} (hD : va_D (gA G) (wld G M)) (hq : wl[q0]? = some (62, 0)) (he : e = cellF G 62 0 (M.1 62 0) (vp_updL M.2 j v)) : (wld G M).set q0 (adr G 62 0, e) = wld G (wrL M j v) :=
  wld_set hD hq (by rw [he]; rfl) (fun t' k' hne hm => cellF_g (fun h3 => hne (by have := only3 (t', k') hm h3; cases this; exact ⟨rfl, rfl⟩)))
/-- an array of ints -/
def IA (a : Nat × Nat) : Prop := a ∈ wl ∧ kindT a.1 = 1
/-- an array of rows -/
def AA (a : Nat × Nat) : Prop := a ∈ wl ∧ kindT a.1 = 5
