/-! THE MADE WORLD IS THE DESK'S WORLD, EMPTY -/
def z0 (t : Nat) : Nat → Int32 := if t = 6 then (fun j => if j = 7 then -4 else 0) else if t = 7 then (fun j => if j = 9 then -4 else 0) else if t = 100 then (fun _ => -4) else (fun _ => 0)
def zM0 : Mm := (fun t _ => z0 t, fun _ => 0)
def cE (G : GT) (q : Nat × Nat) : Nat × va_E := (adr G q.1 q.2, cellF G q.1 q.2 (zM0.1 q.1 q.2) zM0.2)
def rowL (t N : Nat) : List (Nat × Nat) := (List.range N).map (fun i => (t, i))
theorem rowE {G : GT} {t N K : Nat} (h : ∀ i, cE G (t, i) = (adr G t i, zI G K (fun _ => 0))) : (rowL t N).map (cE G) = zRows G N K (adr G t) := by
  unfold rowL zRows
  rw [List.map_map]
  exact List.map_congr_left (fun i _ => h i)
theorem ce_0 {G : GT} {k : Nat} : cE G (0, k) = (adr G 0 k, .inr (0, [.int 0, .ref (adr G 21 k), .ref (adr G 22 k), .ref (adr G 23 k), .ref (adr G 24 k), .int 0, .ref (adr G 26 k), .ref (adr G 27 k), .ref (adr G 28 k), .ref (adr G 29 k), .ref (adr G 30 k), .int 0, .int 0, .ref (adr G 33 k), .ref (adr G 34 k), .int 0, .ref (adr G 36 k), .ref (adr G 37 k), .ref (adr G 38 k)])) := rfl
theorem ce_1 {G : GT} {k : Nat} : cE G (1, k) = (adr G 1 k, .inr (1, [.ref (adr G 40 k), .int 0, .int 0])) := rfl
theorem ce_2 {G : GT} {k : Nat} : cE G (2, k) = (adr G 2 k, .inr (2, [.ref (adr G 60 k), .ref (adr G 61 k), .ref (adr G 62 k)])) := rfl
theorem ce_3 {G : GT} {k : Nat} : cE G (3, k) = (adr G 3 k, .inr (3, [.ref (adr G 80 k), .int 0, .int 0, .int 0, .ref (adr G 84 k), .ref (adr G 85 k), .ref (adr G 86 k)])) := rfl
theorem ce_4 {G : GT} {k : Nat} : cE G (4, k) = (adr G 4 k, .inr (4, [.ref (adr G 100 k), .ref (adr G 101 k)])) := rfl
theorem ce_5 {G : GT} {k : Nat} : cE G (5, k) = (adr G 5 k, .inr (5, [.ref (adr G 0 0), .ref (adr G 121 k), .ref (adr G 122 k), .ref (adr G 123 k), .ref (adr G 124 k), .ref (adr G 125 k), .ref (adr G 126 k), .ref (adr G 127 k), .ref (adr G 128 k), .ref (adr G 129 k), .ref (adr G 130 k), .ref (adr G 131 k), .ref (adr G 132 k), .ref (adr G 133 k), .ref (adr G 134 k), .ref (adr G 2 0)])) := rfl
theorem ce_6 {G : GT} {k : Nat} : cE G (6, k) = (adr G 6 k, .inr (6, [.ref (adr G 5 0), .ref (adr G 0 0), .ref (adr G 0 1), .ref (adr G 1 0), .ref (adr G 3 0), .ref (adr G 4 0), .int 0, .int (-4)])) := rfl
theorem ce_7 {G : GT} {k : Nat} : cE G (7, k) = (adr G 7 k, .inr (7, [.ref (adr G 160 k), .ref (adr G 161 k), .ref (adr G 162 k), .ref (adr G 163 k), .int 0, .int 0, .ref (adr G 166 k), .int 0, .int 0, .int (-4), .int 0, .ref (adr G 171 k), .ref (adr G 172 k), .ref (adr G 173 k), .ref (adr G 174 k)])) := rfl
theorem ce_21 {G : GT} {k : Nat} : cE G (21, k) = (adr G 21 k, zI G 6 (fun _ => 0)) := congrArg (Prod.mk (adr G 21 k)) ((cellF_1 kt21).trans (by rw [lt21]; rfl))
theorem ce_22 {G : GT} {k : Nat} : cE G (22, k) = (adr G 22 k, zI G 6 (fun _ => 0)) := congrArg (Prod.mk (adr G 22 k)) ((cellF_1 kt22).trans (by rw [lt22]; rfl))
theorem ce_23 {G : GT} {k : Nat} : cE G (23, k) = (adr G 23 k, zI G 6 (fun _ => 0)) := congrArg (Prod.mk (adr G 23 k)) ((cellF_1 kt23).trans (by rw [lt23]; rfl))
theorem ce_24 {G : GT} {k : Nat} : cE G (24, k) = (adr G 24 k, zI G 6 (fun _ => 0)) := congrArg (Prod.mk (adr G 24 k)) ((cellF_1 kt24).trans (by rw [lt24]; rfl))
theorem ce_26 {G : GT} {k : Nat} : cE G (26, k) = (adr G 26 k, zI G 4 (fun _ => 0)) := congrArg (Prod.mk (adr G 26 k)) ((cellF_1 kt26).trans (by rw [lt26]; rfl))
theorem ce_27 {G : GT} {k : Nat} : cE G (27, k) = (adr G 27 k, zI G 4 (fun _ => 0)) := congrArg (Prod.mk (adr G 27 k)) ((cellF_1 kt27).trans (by rw [lt27]; rfl))
theorem ce_28 {G : GT} {k : Nat} : cE G (28, k) = (adr G 28 k, zI G 4 (fun _ => 0)) := congrArg (Prod.mk (adr G 28 k)) ((cellF_1 kt28).trans (by rw [lt28]; rfl))
theorem ce_29 {G : GT} {k : Nat} : cE G (29, k) = (adr G 29 k, zI G 4 (fun _ => 0)) := congrArg (Prod.mk (adr G 29 k)) ((cellF_1 kt29).trans (by rw [lt29]; rfl))
theorem ce_30 {G : GT} {k : Nat} : cE G (30, k) = (adr G 30 k, zI G 3 (fun _ => 0)) := congrArg (Prod.mk (adr G 30 k)) ((cellF_1 kt30).trans (by rw [lt30]; rfl))
theorem ce_33 {G : GT} {k : Nat} : cE G (33, k) = (adr G 33 k, zI G 8 (fun _ => 0)) := congrArg (Prod.mk (adr G 33 k)) ((cellF_1 kt33).trans (by rw [lt33]; rfl))
theorem ce_34 {G : GT} {k : Nat} : cE G (34, k) = (adr G 34 k, zI G 8 (fun _ => 0)) := congrArg (Prod.mk (adr G 34 k)) ((cellF_1 kt34).trans (by rw [lt34]; rfl))
theorem ce_36 {G : GT} {k : Nat} : cE G (36, k) = (adr G 36 k, zI G 24 (fun _ => 0)) := congrArg (Prod.mk (adr G 36 k)) ((cellF_1 kt36).trans (by rw [lt36]; rfl))
theorem ce_37 {G : GT} {k : Nat} : cE G (37, k) = (adr G 37 k, zI G 24 (fun _ => 0)) := congrArg (Prod.mk (adr G 37 k)) ((cellF_1 kt37).trans (by rw [lt37]; rfl))
theorem ce_38 {G : GT} {k : Nat} : cE G (38, k) = (adr G 38 k, zI G 24 (fun _ => 0)) := congrArg (Prod.mk (adr G 38 k)) ((cellF_1 kt38).trans (by rw [lt38]; rfl))
theorem ce_40 {G : GT} {k : Nat} : cE G (40, k) = (adr G 40 k, zB G 7 (fun j => some (adr G 0 (2 + j)))) := congrArg (Prod.mk (adr G 40 k)) ((cellF_4 kt40).trans (by rw [lt40]; rfl))
theorem ce_60 {G : GT} {k : Nat} : cE G (60, k) = (adr G 60 k, zI G 24 (fun _ => 0)) := congrArg (Prod.mk (adr G 60 k)) ((cellF_1 kt60).trans (by rw [lt60]; rfl))
theorem ce_61 {G : GT} {k : Nat} : cE G (61, k) = (adr G 61 k, zI G 24 (fun _ => 0)) := congrArg (Prod.mk (adr G 61 k)) ((cellF_1 kt61).trans (by rw [lt61]; rfl))
theorem ce_62 {G : GT} {k : Nat} : cE G (62, k) = (adr G 62 k, zL G 24 (fun _ => 0)) := congrArg (Prod.mk (adr G 62 k)) ((cellF_3 kt62).trans (by rw [lt62]; rfl))
theorem ce_80 {G : GT} {k : Nat} : cE G (80, k) = (adr G 80 k, zC G 60 (fun _ => 0)) := congrArg (Prod.mk (adr G 80 k)) ((cellF_2 kt80).trans (by rw [lt80]; rfl))
theorem ce_84 {G : GT} {k : Nat} : cE G (84, k) = (adr G 84 k, zC G 20 (fun _ => 0)) := congrArg (Prod.mk (adr G 84 k)) ((cellF_2 kt84).trans (by rw [lt84]; rfl))
theorem ce_85 {G : GT} {k : Nat} : cE G (85, k) = (adr G 85 k, zI G 20 (fun _ => 0)) := congrArg (Prod.mk (adr G 85 k)) ((cellF_1 kt85).trans (by rw [lt85]; rfl))
theorem ce_86 {G : GT} {k : Nat} : cE G (86, k) = (adr G 86 k, zR G 20 (adr G 286)) := congrArg (Prod.mk (adr G 86 k)) ((cellF_5 kt86).trans (by rw [lt86]; rfl))
theorem ce_100 {G : GT} {k : Nat} : cE G (100, k) = (adr G 100 k, zI G 12 (fun _ => -4)) := congrArg (Prod.mk (adr G 100 k)) ((cellF_1 kt100).trans (by rw [lt100]; rfl))
theorem ce_101 {G : GT} {k : Nat} : cE G (101, k) = (adr G 101 k, zR G 12 (adr G 301)) := congrArg (Prod.mk (adr G 101 k)) ((cellF_5 kt101).trans (by rw [lt101]; rfl))
theorem ce_121 {G : GT} {k : Nat} : cE G (121, k) = (adr G 121 k, zI G 8 (fun _ => 0)) := congrArg (Prod.mk (adr G 121 k)) ((cellF_1 kt121).trans (by rw [lt121]; rfl))
theorem ce_122 {G : GT} {k : Nat} : cE G (122, k) = (adr G 122 k, zI G 8 (fun _ => 0)) := congrArg (Prod.mk (adr G 122 k)) ((cellF_1 kt122).trans (by rw [lt122]; rfl))
theorem ce_123 {G : GT} {k : Nat} : cE G (123, k) = (adr G 123 k, zI G 24 (fun _ => 0)) := congrArg (Prod.mk (adr G 123 k)) ((cellF_1 kt123).trans (by rw [lt123]; rfl))
theorem ce_124 {G : GT} {k : Nat} : cE G (124, k) = (adr G 124 k, zR G 8 (adr G 324)) := congrArg (Prod.mk (adr G 124 k)) ((cellF_5 kt124).trans (by rw [lt124]; rfl))
theorem ce_125 {G : GT} {k : Nat} : cE G (125, k) = (adr G 125 k, zR G 8 (adr G 325)) := congrArg (Prod.mk (adr G 125 k)) ((cellF_5 kt125).trans (by rw [lt125]; rfl))
theorem ce_126 {G : GT} {k : Nat} : cE G (126, k) = (adr G 126 k, zR G 8 (adr G 326)) := congrArg (Prod.mk (adr G 126 k)) ((cellF_5 kt126).trans (by rw [lt126]; rfl))
theorem ce_127 {G : GT} {k : Nat} : cE G (127, k) = (adr G 127 k, zR G 8 (adr G 327)) := congrArg (Prod.mk (adr G 127 k)) ((cellF_5 kt127).trans (by rw [lt127]; rfl))
theorem ce_128 {G : GT} {k : Nat} : cE G (128, k) = (adr G 128 k, zR G 8 (adr G 328)) := congrArg (Prod.mk (adr G 128 k)) ((cellF_5 kt128).trans (by rw [lt128]; rfl))
theorem ce_129 {G : GT} {k : Nat} : cE G (129, k) = (adr G 129 k, zI G 6 (fun _ => 0)) := congrArg (Prod.mk (adr G 129 k)) ((cellF_1 kt129).trans (by rw [lt129]; rfl))
theorem ce_130 {G : GT} {k : Nat} : cE G (130, k) = (adr G 130 k, zI G 8 (fun _ => 0)) := congrArg (Prod.mk (adr G 130 k)) ((cellF_1 kt130).trans (by rw [lt130]; rfl))
theorem ce_131 {G : GT} {k : Nat} : cE G (131, k) = (adr G 131 k, zR G 8 (adr G 331)) := congrArg (Prod.mk (adr G 131 k)) ((cellF_5 kt131).trans (by rw [lt131]; rfl))
theorem ce_132 {G : GT} {k : Nat} : cE G (132, k) = (adr G 132 k, zI G 4 (fun _ => 0)) := congrArg (Prod.mk (adr G 132 k)) ((cellF_1 kt132).trans (by rw [lt132]; rfl))
theorem ce_133 {G : GT} {k : Nat} : cE G (133, k) = (adr G 133 k, zI G 8 (fun _ => 0)) := congrArg (Prod.mk (adr G 133 k)) ((cellF_1 kt133).trans (by rw [lt133]; rfl))
theorem ce_134 {G : GT} {k : Nat} : cE G (134, k) = (adr G 134 k, zI G 24 (fun _ => 0)) := congrArg (Prod.mk (adr G 134 k)) ((cellF_1 kt134).trans (by rw [lt134]; rfl))
theorem ce_160 {G : GT} {k : Nat} : cE G (160, k) = (adr G 160 k, zI G 136 (fun _ => 0)) := congrArg (Prod.mk (adr G 160 k)) ((cellF_1 kt160).trans (by rw [lt160]; rfl))
theorem ce_161 {G : GT} {k : Nat} : cE G (161, k) = (adr G 161 k, zI G 816 (fun _ => 0)) := congrArg (Prod.mk (adr G 161 k)) ((cellF_1 kt161).trans (by rw [lt161]; rfl))
theorem ce_162 {G : GT} {k : Nat} : cE G (162, k) = (adr G 162 k, zI G 136 (fun _ => 0)) := congrArg (Prod.mk (adr G 162 k)) ((cellF_1 kt162).trans (by rw [lt162]; rfl))
theorem ce_163 {G : GT} {k : Nat} : cE G (163, k) = (adr G 163 k, zI G 136 (fun _ => 0)) := congrArg (Prod.mk (adr G 163 k)) ((cellF_1 kt163).trans (by rw [lt163]; rfl))
theorem ce_166 {G : GT} {k : Nat} : cE G (166, k) = (adr G 166 k, zI G 60 (fun _ => 0)) := congrArg (Prod.mk (adr G 166 k)) ((cellF_1 kt166).trans (by rw [lt166]; rfl))
theorem ce_171 {G : GT} {k : Nat} : cE G (171, k) = (adr G 171 k, zI G 3 (fun _ => 0)) := congrArg (Prod.mk (adr G 171 k)) ((cellF_1 kt171).trans (by rw [lt171]; rfl))
theorem ce_172 {G : GT} {k : Nat} : cE G (172, k) = (adr G 172 k, zI G 24 (fun _ => 0)) := congrArg (Prod.mk (adr G 172 k)) ((cellF_1 kt172).trans (by rw [lt172]; rfl))
theorem ce_173 {G : GT} {k : Nat} : cE G (173, k) = (adr G 173 k, zI G 12 (fun _ => 0)) := congrArg (Prod.mk (adr G 173 k)) ((cellF_1 kt173).trans (by rw [lt173]; rfl))
theorem ce_174 {G : GT} {k : Nat} : cE G (174, k) = (adr G 174 k, zI G 48 (fun _ => 0)) := congrArg (Prod.mk (adr G 174 k)) ((cellF_1 kt174).trans (by rw [lt174]; rfl))
theorem ce_286 {G : GT} {k : Nat} : cE G (286, k) = (adr G 286 k, zI G 3 (fun _ => 0)) := congrArg (Prod.mk (adr G 286 k)) ((cellF_1 kt286).trans (by rw [lt286]; rfl))
theorem ce_301 {G : GT} {k : Nat} : cE G (301, k) = (adr G 301 k, zI G 4 (fun _ => 0)) := congrArg (Prod.mk (adr G 301 k)) ((cellF_1 kt301).trans (by rw [lt301]; rfl))
theorem ce_324 {G : GT} {k : Nat} : cE G (324, k) = (adr G 324 k, zI G 6 (fun _ => 0)) := congrArg (Prod.mk (adr G 324 k)) ((cellF_1 kt324).trans (by rw [lt324]; rfl))
theorem ce_325 {G : GT} {k : Nat} : cE G (325, k) = (adr G 325 k, zI G 6 (fun _ => 0)) := congrArg (Prod.mk (adr G 325 k)) ((cellF_1 kt325).trans (by rw [lt325]; rfl))
theorem ce_326 {G : GT} {k : Nat} : cE G (326, k) = (adr G 326 k, zI G 6 (fun _ => 0)) := congrArg (Prod.mk (adr G 326 k)) ((cellF_1 kt326).trans (by rw [lt326]; rfl))
theorem ce_327 {G : GT} {k : Nat} : cE G (327, k) = (adr G 327 k, zI G 6 (fun _ => 0)) := congrArg (Prod.mk (adr G 327 k)) ((cellF_1 kt327).trans (by rw [lt327]; rfl))
theorem ce_328 {G : GT} {k : Nat} : cE G (328, k) = (adr G 328 k, zI G 6 (fun _ => 0)) := congrArg (Prod.mk (adr G 328 k)) ((cellF_1 kt328).trans (by rw [lt328]; rfl))
theorem ce_331 {G : GT} {k : Nat} : cE G (331, k) = (adr G 331 k, zI G 4 (fun _ => 0)) := congrArg (Prod.mk (adr G 331 k)) ((cellF_1 kt331).trans (by rw [lt331]; rfl))
def bkL (k : Nat) : List (Nat × Nat) := [(0, k), (21, k), (22, k), (23, k), (24, k), (26, k), (27, k), (28, k), (29, k), (30, k), (33, k), (34, k), (36, k), (37, k), (38, k)]
def shL : List (Nat × Nat) := [(2, 0), (60, 0), (61, 0), (62, 0)]
def txL : List (Nat × Nat) := [(3, 0)] ++ [(80, 0)] ++ [(84, 0)] ++ [(85, 0)] ++ ((86, 0) :: rowL 286 20)
def tyL : List (Nat × Nat) := [(4, 0)] ++ [(100, 0)] ++ ((101, 0) :: rowL 301 12)
def hiL : List (Nat × Nat) := [(1, 0)] ++ [(40, 0)] ++ bkL 2 ++ bkL 3 ++ bkL 4 ++ bkL 5 ++ bkL 6 ++ bkL 7 ++ bkL 8
def yrL : List (Nat × Nat) := [(5, 0)] ++ bkL 0 ++ [(121, 0)] ++ [(122, 0)] ++ [(123, 0)] ++ ((124, 0) :: rowL 324 8) ++ ((125, 0) :: rowL 325 8) ++ ((126, 0) :: rowL 326 8) ++ ((127, 0) :: rowL 327 8) ++ ((128, 0) :: rowL 328 8) ++ [(129, 0)] ++ [(130, 0)] ++ ((131, 0) :: rowL 331 8) ++ [(132, 0)] ++ [(133, 0)] ++ [(134, 0)] ++ shL
def lcL : List (Nat × Nat) := [(6, 0)] ++ yrL ++ bkL 1 ++ hiL ++ txL ++ tyL
def mdL : List (Nat × Nat) := [(7, 0)] ++ [(160, 0)] ++ [(161, 0)] ++ [(162, 0)] ++ [(163, 0)] ++ [(166, 0)] ++ [(171, 0)] ++ [(172, 0)] ++ [(173, 0)] ++ [(174, 0)]
theorem bkE {G : GT} {k : Nat} : bkW G (fun t => adr G t k) = (bkL k).map (cE G) := by
  simp only [bkW, bkL, List.map_cons, List.map_nil, ce_0, ce_21, ce_22, ce_23, ce_24, ce_26, ce_27, ce_28, ce_29, ce_30, ce_33, ce_34, ce_36, ce_37, ce_38]
  try rfl
theorem shE {G : GT} : shW G (fun t => adr G t 0) = shL.map (cE G) := by
  simp only [shW, shL, List.map_cons, List.map_nil, ce_2, ce_60, ce_61, ce_62]
  try rfl
theorem txE {G : GT} : txW G (adr G) = txL.map (cE G) := by
  simp only [txW, txL, List.map_append, List.map_cons, List.map_nil, ce_3, ce_80, ce_84, ce_85, ce_86, rowE (G := G) (t := 286) (N := 20) (K := 3) (fun i => ce_286), List.cons_append, List.nil_append, List.append_assoc]
  try rfl
theorem tyE {G : GT} : tyW G (adr G) = tyL.map (cE G) := by
  simp only [tyW, tyL, List.map_append, List.map_cons, List.map_nil, ce_4, ce_100, ce_101, rowE (G := G) (t := 301) (N := 12) (K := 4) (fun i => ce_301), List.cons_append, List.nil_append, List.append_assoc]
  try rfl
theorem hiE {G : GT} : hiW G (adr G) = hiL.map (cE G) := by
  simp only [hiW, hiL, List.map_append, List.map_cons, List.map_nil, ce_1, ce_40, ← bkE, List.cons_append, List.nil_append, List.append_assoc]
  try rfl
theorem yrE {G : GT} : yrW G (adr G) = yrL.map (cE G) := by
  simp only [yrW, yrL, List.map_append, List.map_cons, List.map_nil, ce_5, ce_121, ce_122, ce_123, ce_124, ce_125, ce_126, ce_127, ce_128, ce_129, ce_130, ce_131, ce_132, ce_133, ce_134, rowE (G := G) (t := 324) (N := 8) (K := 6) (fun i => ce_324), rowE (G := G) (t := 325) (N := 8) (K := 6) (fun i => ce_325), rowE (G := G) (t := 326) (N := 8) (K := 6) (fun i => ce_326), rowE (G := G) (t := 327) (N := 8) (K := 6) (fun i => ce_327), rowE (G := G) (t := 328) (N := 8) (K := 6) (fun i => ce_328), rowE (G := G) (t := 331) (N := 8) (K := 4) (fun i => ce_331), ← bkE, ← shE, List.cons_append, List.nil_append, List.append_assoc]
  try rfl
theorem mdE {G : GT} : mdW G (adr G) = mdL.map (cE G) := by
  simp only [mdW, mdL, List.map_append, List.map_cons, List.map_nil, ce_7, ce_160, ce_161, ce_162, ce_163, ce_166, ce_171, ce_172, ce_173, ce_174, List.cons_append, List.nil_append, List.append_assoc]
  try rfl
theorem lcE {G : GT} : lcW G (adr G 6 0) (adr G) (fun t => adr G t 1) (adr G) (adr G) (adr G) = lcL.map (cE G) := by
  simp only [lcW, lcL, List.map_append, List.map_cons, List.map_nil, ce_6, ← yrE, ← bkE, ← hiE, ← txE, ← tyE, List.cons_append, List.nil_append, List.append_assoc]
  try rfl
def adF (h : Nat) (y : Nat → Nat → Nat) (s : Nat → Nat) (hi tx ty m : Nat → Nat → Nat) (t k : Nat) : Nat :=
  if t < 21 then (if t = 0 then (if k = 0 then y t k else if k = 1 then s t else hi t k) else if t = 1 then hi t k else if t = 2 then y t k else if t = 3 then tx t k else if t = 4 then ty t k else if t = 5 then y t k else if t = 6 then h else m t k)
  else if t < 39 then (if k = 0 then y t k else if k = 1 then s t else hi t k) else if t < 41 then hi t k else if t < 63 then y t k else if t < 87 then tx t k else if t < 102 then ty t k else if t < 135 then y t k else if t < 175 then m t k else if t < 287 then tx t k else if t < 302 then ty t k else y t k
section ADF
variable {D : va_G} {cy : Nat → ClassId} {x : Nat → Nat → Nat} {A A2 : Addr → Prop} {h : Nat} {y : Nat → Nat → Nat} {s : Nat → Nat} {hi tx ty m : Nat → Nat → Nat}
set_option maxHeartbeats 4000000 in
theorem yr_ad : yrW (D, cy, x, A) y = yrW (D, cy, adF h y s hi tx ty m, A2) (adr (D, cy, adF h y s hi tx ty m, A2)) := rfl
theorem bk_ad : bkW (D, cy, x, A) s = bkW (D, cy, adF h y s hi tx ty m, A2) (fun t => adr (D, cy, adF h y s hi tx ty m, A2) t 1) := rfl
set_option maxHeartbeats 4000000 in
theorem hi_ad : hiW (D, cy, x, A) hi = hiW (D, cy, adF h y s hi tx ty m, A2) (adr (D, cy, adF h y s hi tx ty m, A2)) := by
  have e : ∀ j : Nat, hi 0 (2 + j) = adF h y s hi tx ty m 0 (2 + j) := fun j => by
    show _ = (if 2 + j = 0 then y 0 (2 + j) else if 2 + j = 1 then s 0 else hi 0 (2 + j))
    rw [if_neg (by omega), if_neg (by omega)]
  have e2 : zB (D, cy, x, A) 7 (fun j => some (hi 0 (2 + j))) = zB (D, cy, adF h y s hi tx ty m, A2) 7 (fun j => some (adr (D, cy, adF h y s hi tx ty m, A2) 0 (2 + j))) := by
    show zB (D, cy, x, A) 7 (fun j => some (hi 0 (2 + j))) = zB (D, cy, x, A) 7 (fun j => some (adF h y s hi tx ty m 0 (2 + j)))
    exact congrArg (zB (D, cy, x, A) 7) (funext fun j => congrArg some (e j))
  unfold hiW
  rw [e2]
  rfl
theorem tx_ad : txW (D, cy, x, A) tx = txW (D, cy, adF h y s hi tx ty m, A2) (adr (D, cy, adF h y s hi tx ty m, A2)) := rfl
theorem ty_ad : tyW (D, cy, x, A) ty = tyW (D, cy, adF h y s hi tx ty m, A2) (adr (D, cy, adF h y s hi tx ty m, A2)) := rfl
theorem md_ad : mdW (D, cy, x, A) m = mdW (D, cy, adF h y s hi tx ty m, A2) (adr (D, cy, adF h y s hi tx ty m, A2)) := rfl
theorem all_ad : lcW (D, cy, x, A) h y s hi tx ty ++ mdW (D, cy, x, A) m = (lcL ++ mdL).map (cE (D, cy, adF h y s hi tx ty m, A2)) := by
  rw [List.map_append, ← lcE, ← mdE]
  unfold lcW
  rw [yr_ad (A2 := A2) (h := h) (s := s) (hi := hi) (tx := tx) (ty := ty) (m := m), bk_ad (A2 := A2) (h := h) (y := y) (hi := hi) (tx := tx) (ty := ty) (m := m), hi_ad (A2 := A2) (h := h) (y := y) (s := s) (tx := tx) (ty := ty) (m := m), tx_ad (A2 := A2) (h := h) (y := y) (s := s) (hi := hi) (ty := ty) (m := m), ty_ad (A2 := A2) (h := h) (y := y) (s := s) (hi := hi) (tx := tx) (m := m), md_ad (A2 := A2) (h := h) (y := y) (s := s) (hi := hi) (tx := tx) (ty := ty)]
  rfl
end ADF
theorem wl_in : ∀ q ∈ wl, q ∈ lcL ++ mdL := by decide +kernel
theorem wl_nd : wl.Nodup := by decide +kernel
theorem made_w {G : GT} {A : Addr → Prop} {H : Heap} (hA : gA G = A) (hP : va_P G.1 vwCl ((lcL ++ mdL).map (cE G)) H) (hD : va_D A ((lcL ++ mdL).map (cE G))) : va_P G.1 vwCl (wld G zM0) H ∧ GD G := by
  have key : ∀ q ∈ wl, ∃ i : Nat, (lcL ++ mdL)[i]? = some q ∧ ((lcL ++ mdL).map (cE G))[i]? = some (cE G q) := fun q hq => by
    obtain ⟨i, hi⟩ := List.getElem?_of_mem (wl_in q hq)
    refine ⟨i, hi, ?_⟩
    rw [List.getElem?_map, hi]
    rfl
  have at' : ∀ (M : Mm) (i : Nat) (p : Nat × va_E), (wld G M)[i]? = some p → ∃ q : Nat × Nat, wl[i]? = some q ∧ p = (adr G q.1 q.2, cellF G q.1 q.2 (M.1 q.1 q.2) M.2) := fun M i p hp => by
    unfold wld at hp
    rw [List.getElem?_map] at hp
    cases hw : wl[i]? with
    | none => rw [hw] at hp; cases hp
    | some q => rw [hw] at hp; exact ⟨q, rfl, (Option.some.inj hp).symm⟩
  refine ⟨fun i p hp => ?_, fun M => ⟨fun i j p q hi hj e => ?_, fun i p hp => ?_⟩⟩
  · obtain ⟨q, hq, rfl⟩ := at' zM0 i p hp
    obtain ⟨n, -, hn⟩ := key q (List.mem_of_getElem? hq)
    exact hP n _ hn
  · obtain ⟨u, hu, rfl⟩ := at' M i p hi
    obtain ⟨v, hv, rfl⟩ := at' M j q hj
    obtain ⟨n1, a1, b1⟩ := key u (List.mem_of_getElem? hu)
    obtain ⟨n2, a2, b2⟩ := key v (List.mem_of_getElem? hv)
    have hn : n1 = n2 := hD.1 n1 n2 _ _ b1 b2 e
    subst hn
    have huv : u = v := Option.some.inj (Eq.trans (Eq.symm a1) a2)
    subst huv
    have hl : i < wl.length := (List.getElem?_eq_some_iff.mp hu).1
    have hl2 : j < wl.length := (List.getElem?_eq_some_iff.mp hv).1
    exact (List.getElem?_inj hl wl_nd).mp (hu.trans hv.symm)
  · obtain ⟨q, hq, rfl⟩ := at' M i p hp
    obtain ⟨n, -, hn⟩ := key q (List.mem_of_getElem? hq)
    rw [hA]
    exact hD.2 n (cE G q) hn
/-- the empty desk, on both sides -/
def zB0 : Bk := fun _ _ => 0
def zD0 : Dt := (zB0, (0, fun _ => zB0), (false, zB0), (0, fun _ => 0), -4, (fun _ => 0, fun _ _ => 0))
theorem bd0 : bd 0 0 99999 := ⟨by decide, by decide⟩
theorem wf_0 : WF zB0 := ⟨⟨by decide, by decide⟩, ⟨by decide, by decide⟩, ⟨by decide, by decide⟩, ⟨by decide, by decide⟩, ⟨by decide, by decide⟩, fun c h => absurd h (Nat.not_lt_zero _), fun l h => absurd h (Nat.not_lt_zero _), fun g _ => bd0, fun e h => absurd h (Nat.not_lt_zero _), fun k h => absurd h (Nat.not_lt_zero _)⟩
theorem inv_0 : INV zD0 zM0 := ⟨⟨⟨wf_0, ⟨by decide, by decide, by decide, by decide, by decide⟩, fun g _ => rfl, fun c h => absurd h (Nat.not_lt_zero _), fun c h => absurd h (Nat.not_lt_zero _), fun c h => absurd h (Nat.not_lt_zero _), fun c h => absurd h (Nat.not_lt_zero _)⟩, ⟨0, by decide, by decide, by decide, by decide, fun j h => absurd h (Nat.not_lt_zero _)⟩, ⟨by decide, fun h => absurd h (by decide)⟩, ⟨by decide, by decide, fun i h => absurd h (Nat.not_lt_zero _)⟩, by decide, fun p _ => ⟨Nat.zero_le _, rfl, fun h => absurd rfl h⟩⟩,
  ⟨⟨wf_0, ⟨by decide, by decide, by decide, by decide, by decide⟩, fun g _ => rfl, fun c h => absurd h (Nat.not_lt_zero _), fun c h => absurd h (Nat.not_lt_zero _), fun c h => absurd h (Nat.not_lt_zero _), fun c h => absurd h (Nat.not_lt_zero _)⟩, ⟨by decide, by decide, fun j h => absurd h (Nat.not_lt_zero _)⟩, ⟨by decide, fun h => absurd h (by decide)⟩, ⟨by decide, by decide, fun i h => absurd h (Nat.not_lt_zero _)⟩, by decide, fun p _ => ⟨Nat.zero_le _, rfl, fun h => absurd rfl h⟩⟩⟩
