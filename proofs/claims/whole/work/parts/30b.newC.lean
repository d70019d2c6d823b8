/-! ===== a PartyLine is made: its cells (printed by program) ===== -/
def hP0 : mH := (fun _ _ => 0, fun _ _ => 0, fun b => if b = 1 then (21, 13) else (0, 0), (1, 13))
def hP1 : mH := mPut (mNew hP0 2 2 900) 1 0 2
def hP2 : mH := mNew hP1 3 14 10
def hP3 : mH := mNew hP2 17 12 16
def hP4 : mH := nwL hP3 17
def hP5 : mH := mPut hP4 3 0 17
def hP6 : mH := mSet hP5 3 2 (-1)
def hP7 : mH := mNew hP6 26 11 10
def hP8 : mH := mPut (mNew hP7 27 1 64) 26 3 27
def hP9 : mH := mPut hP8 3 3 26
def hP10 : mH := mPut (mNew hP9 28 2 0) 3 4 28
def hP11 : mH := mPut hP10 1 2 3
def hP12 : mH := mNew hP11 4 20 5
def hP13 : mH := mNew hP12 29 12 16
def hP14 : mH := nwL hP13 29
def hP15 : mH := mPut hP14 4 0 29
def hP16 : mH := mNew hP15 38 17 6
def hP17 : mH := nwS hP16 38
def hP18 : mH := mPut hP17 4 1 38
def hP19 : mH := mPut (mNew hP18 42 1 5) 4 2 42
def hP20 : mH := mPut (mNew hP19 43 1 64) 4 3 43
def hP21 : mH := mSet hP20 39 0 (hP20.1 29 5)
def hP22 : mH := mSet hP21 40 0 0
def hP23 : mH := mSet hP22 41 0 (hP22.1 33 0)
def hP24 : mH := mSet hP23 39 1 (hP23.1 29 5)
def hP25 : mH := mSet hP24 40 1 0
def hP26 : mH := mSet hP25 41 1 (hP25.1 33 1)
def hP27 : mH := mSet hP26 39 2 (hP26.1 29 5)
def hP28 : mH := mSet hP27 40 2 0
def hP29 : mH := mSet hP28 41 2 (hP28.1 33 2)
def hP30 : mH := mSet hP29 39 3 (hP29.1 29 5)
def hP31 : mH := mSet hP30 40 3 0
def hP32 : mH := mSet hP31 41 3 (hP31.1 33 3)
def hP33 : mH := mSet hP32 39 4 (hP32.1 29 5)
def hP34 : mH := mSet hP33 40 4 0
def hP35 : mH := mSet hP34 41 4 (hP34.1 33 4)
def hP36 : mH := mSet hP35 39 5 (hP35.1 29 5)
def hP37 : mH := mSet hP36 40 5 0
def hP38 : mH := mSet hP37 41 5 (hP37.1 33 5)
def hP39 : mH := mSet hP38 39 6 (hP38.1 29 5)
def hP40 : mH := mSet hP39 40 6 0
def hP41 : mH := mSet hP40 41 6 (hP40.1 33 6)
def hP42 : mH := mSet hP41 39 7 (hP41.1 29 5)
def hP43 : mH := mSet hP42 40 7 0
def hP44 : mH := mSet hP43 41 7 (hP43.1 33 7)
def hP45 : mH := mSet hP44 38 3 (hP44.1 29 4)
def hP46 : mH := mSet hP45 38 4 0
def hP47 : mH := mSet hP46 38 5 0
def hP48 : mH := mPut hP47 1 3 4
def hP49 : mH := mNew hP48 5 17 6
def hP50 : mH := nwS hP49 5
def hP51 : mH := mPut hP50 1 4 5
def hP52 : mH := mNew hP51 9 13 2
def hP53 : mH := mPut (mNew hP52 44 47 10) 9 0 44
def hP54 : mH := mNew hP53 45 17 6
def hP55 : mH := nwS hP54 45
def hP56 : mH := mPut hP55 44 0 45
def hP57 : mH := mNew hP56 49 17 6
def hP58 : mH := nwS hP57 49
def hP59 : mH := mPut hP58 44 1 49
def hP60 : mH := mNew hP59 53 17 6
def hP61 : mH := nwS hP60 53
def hP62 : mH := mPut hP61 44 2 53
def hP63 : mH := mNew hP62 57 17 6
def hP64 : mH := nwS hP63 57
def hP65 : mH := mPut hP64 44 3 57
def hP66 : mH := mNew hP65 61 17 6
def hP67 : mH := nwS hP66 61
def hP68 : mH := mPut hP67 44 4 61
def hP69 : mH := mNew hP68 65 17 6
def hP70 : mH := nwS hP69 65
def hP71 : mH := mPut hP70 44 5 65
def hP72 : mH := mNew hP71 69 17 6
def hP73 : mH := nwS hP72 69
def hP74 : mH := mPut hP73 44 6 69
def hP75 : mH := mNew hP74 73 17 6
def hP76 : mH := nwS hP75 73
def hP77 : mH := mPut hP76 44 7 73
def hP78 : mH := mNew hP77 77 17 6
def hP79 : mH := nwS hP78 77
def hP80 : mH := mPut hP79 44 8 77
def hP81 : mH := mNew hP80 81 17 6
def hP82 : mH := nwS hP81 81
def hP83 : mH := mPut hP82 44 9 81
def hP84 : mH := mPut hP83 1 5 9
def hP85 : mH := mPut (mNew hP84 10 48 4) 1 6 10
def hP86 : mH := mPut (mNew hP85 11 42 2) 1 7 11
def hP87 : mH := mPut (mNew hP86 12 47 2) 1 8 12
def hP88 : mH := mNew hP87 13 19 7
def hP89 : mH := mNew hP88 93 16 5
def hP90 : mH := mSet hP89 93 0 (-1)
def hP91 : mH := mPut (mNew hP90 94 1 64) 93 1 94
def hP92 : mH := mPut (mNew hP91 95 1 64) 93 2 95
def hP93 : mH := mPut hP92 13 0 93
def hP94 : mH := mPut (mNew hP93 96 1 12) 13 2 96
def hP95 : mH := mPut (mNew hP94 97 1 12) 13 3 97
def hP96 : mH := mPut (mNew hP95 98 1 9) 13 4 98
def hP97 : mH := mPut (mNew hP96 99 4 8) 13 5 99
def hP98 : mH := mPut (mNew hP97 100 4 8) 13 6 100
def hP99 : mH := mPut hP98 13 1 4
def hP100 : mH := mPut hP99 1 9 13
def hP101 : mH := mNew hP100 14 10 4
def hP102 : mH := mPut (mNew hP101 101 1 64) 14 1 101
def hP103 : mH := mPut (mNew hP102 102 1 8) 14 2 102
def hP104 : mH := mPut (mNew hP103 103 1 8) 14 3 103
def hP105 : mH := mPut hP104 14 0 4
def hP106 : mH := mPut hP105 1 10 14
def hP107 : mH := mNew hP106 15 15 6
def hP108 : mH := mPut (mNew hP107 104 1 12) 15 1 104
def hP109 : mH := mPut (mNew hP108 105 4 8) 15 4 105
def hP110 : mH := mPut (mNew hP109 106 4 8) 15 5 106
def hP111 : mH := mPut hP110 15 0 4
def hP112 : mH := mPut hP111 1 11 15
def hP113 : mH := mPut (mNew hP112 16 1 8) 1 12 16
def hP114 : mH := mNew hP113 85 18 3
def hP115 : mH := mPut (mNew hP114 86 4 40) 85 0 86
def hP116 : mH := mSet hP115 85 2 (-1)
def hP117 : mH := mPut hP116 10 0 85
def hP118 : mH := mNew hP117 87 18 3
def hP119 : mH := mPut (mNew hP118 88 4 40) 87 0 88
def hP120 : mH := mSet hP119 87 2 (-1)
def hP121 : mH := mPut hP120 10 1 87
def hP122 : mH := mNew hP121 89 18 3
def hP123 : mH := mPut (mNew hP122 90 4 40) 89 0 90
def hP124 : mH := mSet hP123 89 2 (-1)
def hP125 : mH := mPut hP124 10 2 89
def hP126 : mH := mNew hP125 91 18 3
def hP127 : mH := mPut (mNew hP126 92 4 40) 91 0 92
def hP128 : mH := mSet hP127 91 2 (-1)
def hP129 : mH := mPut hP128 10 3 91
theorem hPrun3 {d : Nat} {F : mPost} (q : F (9, 0) hP4) : WPm gT (d + 1) 20 [(2, ((17 : Nat) : Int))] hP3 F := by
  refine c2_init (a := 17) (h := hP3) (by decide +kernel) (by decide) (fun i h1 h2 => by rcases (show i = 1 ∨ i = 2 ∨ i = 3 ∨ i = 4 ∨ i = 5 ∨ i = 6 ∨ i = 7 ∨ i = 8 by omega) with z | z | z | z | z | z | z | z <;> subst z <;> decide +kernel) ⟨by decide +kernel, by decide +kernel⟩ ?_
  exact q
theorem hPrun4 {d : Nat} {F : mPost} (q : F (9, 0) hP8) : WPm gT (d + 1) 6 [(2, ((26 : Nat) : Int))] hP7 F := by
  refine WPm_in g1_init (Nat.le_of_ble_eq_true rfl) ?_
  refine bi1_init_0 (h := hP7) (a := 26) ⟨rfl, by decide, ?_⟩
  show WPc t1_init (WPm gT (d + 0)) F (4, [(2, ((26 : Nat) : Int))], [], hP7)
  refine bi1_init_4 (h := hP7) (a := 26) ⟨rfl, rfl, rfl, ⟨by decide, by decide, by decide +kernel, by decide +kernel⟩, 27, by decide +kernel, by decide +kernel, ?_⟩
  show WPc t1_init (WPm gT (d + 0)) F (12, [(2, ((26 : Nat) : Int))], [], hP8)
  refine bi1_init_12 (h := hP8) (a := 26) ⟨rfl, ?_⟩
  exact q
theorem hPrun2 {d : Nat} {F : mPost} (q : F (9, 0) hP10) : WPm gT (d + 2) 30 [(2, ((3 : Nat) : Int))] hP2 F := by
  refine WPm_in g4_init (Nat.le_of_ble_eq_true rfl) ?_
  refine bi4_init_0 (h := hP2) (a := 3) ⟨rfl, by decide, ?_⟩
  show WPc t4_init (WPm gT (d + 1)) F (4, [(2, ((3 : Nat) : Int))], [], hP2)
  refine bi4_init_4 (h := hP2) (a := 3) ⟨rfl, rfl, ⟨by decide +kernel, by decide +kernel⟩, 17, by decide +kernel, rfl, by decide +kernel, ?_⟩
  refine hPrun3 ?_
  show WPc t4_init (WPm gT (d + 1)) F (12, [(2, ((3 : Nat) : Int))], [(2, ((17 : Nat) : Int)), (2, ((3 : Nat) : Int))], hP4)
  refine bi4_init_12 (h := hP4) (a := 3) (p := 17) ⟨by decide +kernel, ?_⟩
  show WPc t4_init (WPm gT (d + 1)) F (15, [(2, ((3 : Nat) : Int))], [], hP5)
  refine bi4_init_15 (h := hP5) (a := 3) ⟨rfl, rfl, by decide +kernel, ?_⟩
  show WPc t4_init (WPm gT (d + 1)) F (20, [(2, ((3 : Nat) : Int))], [], hP6)
  refine bi4_init_20 (h := hP6) (a := 3) ⟨rfl, rfl, ⟨by decide +kernel, by decide +kernel⟩, 26, by decide +kernel, rfl, by decide +kernel, ?_⟩
  refine hPrun4 ?_
  show WPc t4_init (WPm gT (d + 1)) F (28, [(2, ((3 : Nat) : Int))], [(2, ((26 : Nat) : Int)), (2, ((3 : Nat) : Int))], hP8)
  refine bi4_init_28 (h := hP8) (a := 3) (p := 26) ⟨by decide +kernel, ?_⟩
  show WPc t4_init (WPm gT (d + 1)) F (31, [(2, ((3 : Nat) : Int))], [], hP9)
  refine bi4_init_31 (h := hP9) (a := 3) ⟨rfl, rfl, rfl, ⟨by decide, by decide, by decide +kernel, by decide +kernel⟩, 28, by decide +kernel, by decide +kernel, ?_⟩
  show WPc t4_init (WPm gT (d + 1)) F (38, [(2, ((3 : Nat) : Int))], [], hP10)
  refine bi4_init_38 (h := hP10) (a := 3) ⟨rfl, ?_⟩
  exact q
theorem hPrun6 {d : Nat} {F : mPost} (q : F (9, 0) hP14) : WPm gT (d + 1) 20 [(2, ((29 : Nat) : Int))] hP13 F := by
  refine c2_init (a := 29) (h := hP13) (by decide +kernel) (by decide) (fun i h1 h2 => by rcases (show i = 1 ∨ i = 2 ∨ i = 3 ∨ i = 4 ∨ i = 5 ∨ i = 6 ∨ i = 7 ∨ i = 8 by omega) with z | z | z | z | z | z | z | z <;> subst z <;> decide +kernel) ⟨by decide +kernel, by decide +kernel⟩ ?_
  exact q
theorem hPrun7 {d : Nat} {F : mPost} (q : F (9, 0) hP17) : WPm gT (d + 1) 69 [(2, ((38 : Nat) : Int))] hP16 F := by
  refine c7_init (a := 38) (h := hP16) (by decide +kernel) (by decide) (fun i h1 h2 => by rcases (show i = 1 ∨ i = 2 ∨ i = 3 by omega) with z | z | z <;> subst z <;> decide +kernel) ⟨by decide +kernel, by decide +kernel⟩ ?_
  exact q
theorem hPrun8 {d : Nat} {F : mPost} (q : F (9, 0) hP47) : WPm gT (d + 1) 70 [(2, ((38 : Nat) : Int)), (2, ((29 : Nat) : Int))] hP20 F := by
  refine WPm_in g7_begin (Nat.le_of_ble_eq_true rfl) ?_
  refine bi7_begin_0 (h := hP20) (a := 38) (b := 29) ⟨rfl, rfl, ?_⟩
  show WPc t7_begin (WPm gT (d + 0)) F (2, [(2, ((38 : Nat) : Int)), (2, ((29 : Nat) : Int)), (0, 0)], [], hP20)
  refine bi7_begin_2 (h := hP20) (a := 38) (b := 29) (x := 0) ⟨rfl, rfl, rfl, fun z => absurd z (by decide), fun _ => ?_⟩
  show WPc t7_begin (WPm gT (d + 0)) F (8, [(2, ((38 : Nat) : Int)), (2, ((29 : Nat) : Int)), (0, 0)], [], hP20)
  refine bi7_begin_8 (h := hP20) (a := 38) (b := 29) (x := 0) ⟨rfl, by decide +kernel, rfl, rfl, by decide +kernel, by decide +kernel, ⟨by decide, by decide +kernel, trivial⟩, ?_⟩
  try rw [show hP20.2.1 38 0 = 39 from by decide +kernel]
  show WPc t7_begin (WPm gT (d + 0)) F (18, [(2, ((38 : Nat) : Int)), (2, ((29 : Nat) : Int)), (0, 0)], [], hP21)
  refine bi7_begin_18 (h := hP21) (a := 38) (b := 29) (x := 0) ⟨rfl, by decide +kernel, rfl, rfl, by decide +kernel, ⟨by decide, by decide +kernel, trivial⟩, ?_⟩
  try rw [show hP21.2.1 38 1 = 40 from by decide +kernel]
  show WPc t7_begin (WPm gT (d + 0)) F (25, [(2, ((38 : Nat) : Int)), (2, ((29 : Nat) : Int)), (0, 0)], [], hP22)
  refine bi7_begin_25 (h := hP22) (a := 38) (b := 29) (x := 0) ⟨rfl, by decide +kernel, rfl, rfl, by decide +kernel, rfl, by decide +kernel, ⟨by decide, by decide +kernel⟩, by decide +kernel, ⟨by decide, by decide +kernel, trivial⟩, ?_⟩
  try rw [show hP22.2.1 38 2 = 41 from by decide +kernel]
  try rw [show hP22.2.1 29 10 = 33 from by decide +kernel]
  show WPc t7_begin (WPm gT (d + 0)) F (37, [(2, ((38 : Nat) : Int)), (2, ((29 : Nat) : Int)), (0, 0)], [], hP23)
  refine bi7_begin_37 (h := hP23) (a := 38) (b := 29) (x := 0) ⟨rfl, rfl, ?_⟩
  rw [show w32 (0 + 1) = 1 from w32_id (by decide) (by decide)]
  show WPc t7_begin (WPm gT (d + 0)) F (2, [(2, ((38 : Nat) : Int)), (2, ((29 : Nat) : Int)), (0, 1)], [], hP23)
  refine bi7_begin_2 (h := hP23) (a := 38) (b := 29) (x := 1) ⟨rfl, rfl, rfl, fun z => absurd z (by decide), fun _ => ?_⟩
  show WPc t7_begin (WPm gT (d + 0)) F (8, [(2, ((38 : Nat) : Int)), (2, ((29 : Nat) : Int)), (0, 1)], [], hP23)
  refine bi7_begin_8 (h := hP23) (a := 38) (b := 29) (x := 1) ⟨rfl, by decide +kernel, rfl, rfl, by decide +kernel, by decide +kernel, ⟨by decide, by decide +kernel, trivial⟩, ?_⟩
  try rw [show hP23.2.1 38 0 = 39 from by decide +kernel]
  show WPc t7_begin (WPm gT (d + 0)) F (18, [(2, ((38 : Nat) : Int)), (2, ((29 : Nat) : Int)), (0, 1)], [], hP24)
  refine bi7_begin_18 (h := hP24) (a := 38) (b := 29) (x := 1) ⟨rfl, by decide +kernel, rfl, rfl, by decide +kernel, ⟨by decide, by decide +kernel, trivial⟩, ?_⟩
  try rw [show hP24.2.1 38 1 = 40 from by decide +kernel]
  show WPc t7_begin (WPm gT (d + 0)) F (25, [(2, ((38 : Nat) : Int)), (2, ((29 : Nat) : Int)), (0, 1)], [], hP25)
  refine bi7_begin_25 (h := hP25) (a := 38) (b := 29) (x := 1) ⟨rfl, by decide +kernel, rfl, rfl, by decide +kernel, rfl, by decide +kernel, ⟨by decide, by decide +kernel⟩, by decide +kernel, ⟨by decide, by decide +kernel, trivial⟩, ?_⟩
  try rw [show hP25.2.1 38 2 = 41 from by decide +kernel]
  try rw [show hP25.2.1 29 10 = 33 from by decide +kernel]
  show WPc t7_begin (WPm gT (d + 0)) F (37, [(2, ((38 : Nat) : Int)), (2, ((29 : Nat) : Int)), (0, 1)], [], hP26)
  refine bi7_begin_37 (h := hP26) (a := 38) (b := 29) (x := 1) ⟨rfl, rfl, ?_⟩
  rw [show w32 (1 + 1) = 2 from w32_id (by decide) (by decide)]
  show WPc t7_begin (WPm gT (d + 0)) F (2, [(2, ((38 : Nat) : Int)), (2, ((29 : Nat) : Int)), (0, 2)], [], hP26)
  refine bi7_begin_2 (h := hP26) (a := 38) (b := 29) (x := 2) ⟨rfl, rfl, rfl, fun z => absurd z (by decide), fun _ => ?_⟩
  show WPc t7_begin (WPm gT (d + 0)) F (8, [(2, ((38 : Nat) : Int)), (2, ((29 : Nat) : Int)), (0, 2)], [], hP26)
  refine bi7_begin_8 (h := hP26) (a := 38) (b := 29) (x := 2) ⟨rfl, by decide +kernel, rfl, rfl, by decide +kernel, by decide +kernel, ⟨by decide, by decide +kernel, trivial⟩, ?_⟩
  try rw [show hP26.2.1 38 0 = 39 from by decide +kernel]
  show WPc t7_begin (WPm gT (d + 0)) F (18, [(2, ((38 : Nat) : Int)), (2, ((29 : Nat) : Int)), (0, 2)], [], hP27)
  refine bi7_begin_18 (h := hP27) (a := 38) (b := 29) (x := 2) ⟨rfl, by decide +kernel, rfl, rfl, by decide +kernel, ⟨by decide, by decide +kernel, trivial⟩, ?_⟩
  try rw [show hP27.2.1 38 1 = 40 from by decide +kernel]
  show WPc t7_begin (WPm gT (d + 0)) F (25, [(2, ((38 : Nat) : Int)), (2, ((29 : Nat) : Int)), (0, 2)], [], hP28)
  refine bi7_begin_25 (h := hP28) (a := 38) (b := 29) (x := 2) ⟨rfl, by decide +kernel, rfl, rfl, by decide +kernel, rfl, by decide +kernel, ⟨by decide, by decide +kernel⟩, by decide +kernel, ⟨by decide, by decide +kernel, trivial⟩, ?_⟩
  try rw [show hP28.2.1 38 2 = 41 from by decide +kernel]
  try rw [show hP28.2.1 29 10 = 33 from by decide +kernel]
  show WPc t7_begin (WPm gT (d + 0)) F (37, [(2, ((38 : Nat) : Int)), (2, ((29 : Nat) : Int)), (0, 2)], [], hP29)
  refine bi7_begin_37 (h := hP29) (a := 38) (b := 29) (x := 2) ⟨rfl, rfl, ?_⟩
  rw [show w32 (2 + 1) = 3 from w32_id (by decide) (by decide)]
  show WPc t7_begin (WPm gT (d + 0)) F (2, [(2, ((38 : Nat) : Int)), (2, ((29 : Nat) : Int)), (0, 3)], [], hP29)
  refine bi7_begin_2 (h := hP29) (a := 38) (b := 29) (x := 3) ⟨rfl, rfl, rfl, fun z => absurd z (by decide), fun _ => ?_⟩
  show WPc t7_begin (WPm gT (d + 0)) F (8, [(2, ((38 : Nat) : Int)), (2, ((29 : Nat) : Int)), (0, 3)], [], hP29)
  refine bi7_begin_8 (h := hP29) (a := 38) (b := 29) (x := 3) ⟨rfl, by decide +kernel, rfl, rfl, by decide +kernel, by decide +kernel, ⟨by decide, by decide +kernel, trivial⟩, ?_⟩
  try rw [show hP29.2.1 38 0 = 39 from by decide +kernel]
  show WPc t7_begin (WPm gT (d + 0)) F (18, [(2, ((38 : Nat) : Int)), (2, ((29 : Nat) : Int)), (0, 3)], [], hP30)
  refine bi7_begin_18 (h := hP30) (a := 38) (b := 29) (x := 3) ⟨rfl, by decide +kernel, rfl, rfl, by decide +kernel, ⟨by decide, by decide +kernel, trivial⟩, ?_⟩
  try rw [show hP30.2.1 38 1 = 40 from by decide +kernel]
  show WPc t7_begin (WPm gT (d + 0)) F (25, [(2, ((38 : Nat) : Int)), (2, ((29 : Nat) : Int)), (0, 3)], [], hP31)
  refine bi7_begin_25 (h := hP31) (a := 38) (b := 29) (x := 3) ⟨rfl, by decide +kernel, rfl, rfl, by decide +kernel, rfl, by decide +kernel, ⟨by decide, by decide +kernel⟩, by decide +kernel, ⟨by decide, by decide +kernel, trivial⟩, ?_⟩
  try rw [show hP31.2.1 38 2 = 41 from by decide +kernel]
  try rw [show hP31.2.1 29 10 = 33 from by decide +kernel]
  show WPc t7_begin (WPm gT (d + 0)) F (37, [(2, ((38 : Nat) : Int)), (2, ((29 : Nat) : Int)), (0, 3)], [], hP32)
  refine bi7_begin_37 (h := hP32) (a := 38) (b := 29) (x := 3) ⟨rfl, rfl, ?_⟩
  rw [show w32 (3 + 1) = 4 from w32_id (by decide) (by decide)]
  show WPc t7_begin (WPm gT (d + 0)) F (2, [(2, ((38 : Nat) : Int)), (2, ((29 : Nat) : Int)), (0, 4)], [], hP32)
  refine bi7_begin_2 (h := hP32) (a := 38) (b := 29) (x := 4) ⟨rfl, rfl, rfl, fun z => absurd z (by decide), fun _ => ?_⟩
  show WPc t7_begin (WPm gT (d + 0)) F (8, [(2, ((38 : Nat) : Int)), (2, ((29 : Nat) : Int)), (0, 4)], [], hP32)
  refine bi7_begin_8 (h := hP32) (a := 38) (b := 29) (x := 4) ⟨rfl, by decide +kernel, rfl, rfl, by decide +kernel, by decide +kernel, ⟨by decide, by decide +kernel, trivial⟩, ?_⟩
  try rw [show hP32.2.1 38 0 = 39 from by decide +kernel]
  show WPc t7_begin (WPm gT (d + 0)) F (18, [(2, ((38 : Nat) : Int)), (2, ((29 : Nat) : Int)), (0, 4)], [], hP33)
  refine bi7_begin_18 (h := hP33) (a := 38) (b := 29) (x := 4) ⟨rfl, by decide +kernel, rfl, rfl, by decide +kernel, ⟨by decide, by decide +kernel, trivial⟩, ?_⟩
  try rw [show hP33.2.1 38 1 = 40 from by decide +kernel]
  show WPc t7_begin (WPm gT (d + 0)) F (25, [(2, ((38 : Nat) : Int)), (2, ((29 : Nat) : Int)), (0, 4)], [], hP34)
  refine bi7_begin_25 (h := hP34) (a := 38) (b := 29) (x := 4) ⟨rfl, by decide +kernel, rfl, rfl, by decide +kernel, rfl, by decide +kernel, ⟨by decide, by decide +kernel⟩, by decide +kernel, ⟨by decide, by decide +kernel, trivial⟩, ?_⟩
  try rw [show hP34.2.1 38 2 = 41 from by decide +kernel]
  try rw [show hP34.2.1 29 10 = 33 from by decide +kernel]
  show WPc t7_begin (WPm gT (d + 0)) F (37, [(2, ((38 : Nat) : Int)), (2, ((29 : Nat) : Int)), (0, 4)], [], hP35)
  refine bi7_begin_37 (h := hP35) (a := 38) (b := 29) (x := 4) ⟨rfl, rfl, ?_⟩
  rw [show w32 (4 + 1) = 5 from w32_id (by decide) (by decide)]
  show WPc t7_begin (WPm gT (d + 0)) F (2, [(2, ((38 : Nat) : Int)), (2, ((29 : Nat) : Int)), (0, 5)], [], hP35)
  refine bi7_begin_2 (h := hP35) (a := 38) (b := 29) (x := 5) ⟨rfl, rfl, rfl, fun z => absurd z (by decide), fun _ => ?_⟩
  show WPc t7_begin (WPm gT (d + 0)) F (8, [(2, ((38 : Nat) : Int)), (2, ((29 : Nat) : Int)), (0, 5)], [], hP35)
  refine bi7_begin_8 (h := hP35) (a := 38) (b := 29) (x := 5) ⟨rfl, by decide +kernel, rfl, rfl, by decide +kernel, by decide +kernel, ⟨by decide, by decide +kernel, trivial⟩, ?_⟩
  try rw [show hP35.2.1 38 0 = 39 from by decide +kernel]
  show WPc t7_begin (WPm gT (d + 0)) F (18, [(2, ((38 : Nat) : Int)), (2, ((29 : Nat) : Int)), (0, 5)], [], hP36)
  refine bi7_begin_18 (h := hP36) (a := 38) (b := 29) (x := 5) ⟨rfl, by decide +kernel, rfl, rfl, by decide +kernel, ⟨by decide, by decide +kernel, trivial⟩, ?_⟩
  try rw [show hP36.2.1 38 1 = 40 from by decide +kernel]
  show WPc t7_begin (WPm gT (d + 0)) F (25, [(2, ((38 : Nat) : Int)), (2, ((29 : Nat) : Int)), (0, 5)], [], hP37)
  refine bi7_begin_25 (h := hP37) (a := 38) (b := 29) (x := 5) ⟨rfl, by decide +kernel, rfl, rfl, by decide +kernel, rfl, by decide +kernel, ⟨by decide, by decide +kernel⟩, by decide +kernel, ⟨by decide, by decide +kernel, trivial⟩, ?_⟩
  try rw [show hP37.2.1 38 2 = 41 from by decide +kernel]
  try rw [show hP37.2.1 29 10 = 33 from by decide +kernel]
  show WPc t7_begin (WPm gT (d + 0)) F (37, [(2, ((38 : Nat) : Int)), (2, ((29 : Nat) : Int)), (0, 5)], [], hP38)
  refine bi7_begin_37 (h := hP38) (a := 38) (b := 29) (x := 5) ⟨rfl, rfl, ?_⟩
  rw [show w32 (5 + 1) = 6 from w32_id (by decide) (by decide)]
  show WPc t7_begin (WPm gT (d + 0)) F (2, [(2, ((38 : Nat) : Int)), (2, ((29 : Nat) : Int)), (0, 6)], [], hP38)
  refine bi7_begin_2 (h := hP38) (a := 38) (b := 29) (x := 6) ⟨rfl, rfl, rfl, fun z => absurd z (by decide), fun _ => ?_⟩
  show WPc t7_begin (WPm gT (d + 0)) F (8, [(2, ((38 : Nat) : Int)), (2, ((29 : Nat) : Int)), (0, 6)], [], hP38)
  refine bi7_begin_8 (h := hP38) (a := 38) (b := 29) (x := 6) ⟨rfl, by decide +kernel, rfl, rfl, by decide +kernel, by decide +kernel, ⟨by decide, by decide +kernel, trivial⟩, ?_⟩
  try rw [show hP38.2.1 38 0 = 39 from by decide +kernel]
  show WPc t7_begin (WPm gT (d + 0)) F (18, [(2, ((38 : Nat) : Int)), (2, ((29 : Nat) : Int)), (0, 6)], [], hP39)
  refine bi7_begin_18 (h := hP39) (a := 38) (b := 29) (x := 6) ⟨rfl, by decide +kernel, rfl, rfl, by decide +kernel, ⟨by decide, by decide +kernel, trivial⟩, ?_⟩
  try rw [show hP39.2.1 38 1 = 40 from by decide +kernel]
  show WPc t7_begin (WPm gT (d + 0)) F (25, [(2, ((38 : Nat) : Int)), (2, ((29 : Nat) : Int)), (0, 6)], [], hP40)
  refine bi7_begin_25 (h := hP40) (a := 38) (b := 29) (x := 6) ⟨rfl, by decide +kernel, rfl, rfl, by decide +kernel, rfl, by decide +kernel, ⟨by decide, by decide +kernel⟩, by decide +kernel, ⟨by decide, by decide +kernel, trivial⟩, ?_⟩
  try rw [show hP40.2.1 38 2 = 41 from by decide +kernel]
  try rw [show hP40.2.1 29 10 = 33 from by decide +kernel]
  show WPc t7_begin (WPm gT (d + 0)) F (37, [(2, ((38 : Nat) : Int)), (2, ((29 : Nat) : Int)), (0, 6)], [], hP41)
  refine bi7_begin_37 (h := hP41) (a := 38) (b := 29) (x := 6) ⟨rfl, rfl, ?_⟩
  rw [show w32 (6 + 1) = 7 from w32_id (by decide) (by decide)]
  show WPc t7_begin (WPm gT (d + 0)) F (2, [(2, ((38 : Nat) : Int)), (2, ((29 : Nat) : Int)), (0, 7)], [], hP41)
  refine bi7_begin_2 (h := hP41) (a := 38) (b := 29) (x := 7) ⟨rfl, rfl, rfl, fun z => absurd z (by decide), fun _ => ?_⟩
  show WPc t7_begin (WPm gT (d + 0)) F (8, [(2, ((38 : Nat) : Int)), (2, ((29 : Nat) : Int)), (0, 7)], [], hP41)
  refine bi7_begin_8 (h := hP41) (a := 38) (b := 29) (x := 7) ⟨rfl, by decide +kernel, rfl, rfl, by decide +kernel, by decide +kernel, ⟨by decide, by decide +kernel, trivial⟩, ?_⟩
  try rw [show hP41.2.1 38 0 = 39 from by decide +kernel]
  show WPc t7_begin (WPm gT (d + 0)) F (18, [(2, ((38 : Nat) : Int)), (2, ((29 : Nat) : Int)), (0, 7)], [], hP42)
  refine bi7_begin_18 (h := hP42) (a := 38) (b := 29) (x := 7) ⟨rfl, by decide +kernel, rfl, rfl, by decide +kernel, ⟨by decide, by decide +kernel, trivial⟩, ?_⟩
  try rw [show hP42.2.1 38 1 = 40 from by decide +kernel]
  show WPc t7_begin (WPm gT (d + 0)) F (25, [(2, ((38 : Nat) : Int)), (2, ((29 : Nat) : Int)), (0, 7)], [], hP43)
  refine bi7_begin_25 (h := hP43) (a := 38) (b := 29) (x := 7) ⟨rfl, by decide +kernel, rfl, rfl, by decide +kernel, rfl, by decide +kernel, ⟨by decide, by decide +kernel⟩, by decide +kernel, ⟨by decide, by decide +kernel, trivial⟩, ?_⟩
  try rw [show hP43.2.1 38 2 = 41 from by decide +kernel]
  try rw [show hP43.2.1 29 10 = 33 from by decide +kernel]
  show WPc t7_begin (WPm gT (d + 0)) F (37, [(2, ((38 : Nat) : Int)), (2, ((29 : Nat) : Int)), (0, 7)], [], hP44)
  refine bi7_begin_37 (h := hP44) (a := 38) (b := 29) (x := 7) ⟨rfl, rfl, ?_⟩
  rw [show w32 (7 + 1) = 8 from w32_id (by decide) (by decide)]
  show WPc t7_begin (WPm gT (d + 0)) F (2, [(2, ((38 : Nat) : Int)), (2, ((29 : Nat) : Int)), (0, 8)], [], hP44)
  refine bi7_begin_2 (h := hP44) (a := 38) (b := 29) (x := 8) ⟨rfl, rfl, rfl, fun _ => ?_, fun z => absurd (by decide) z⟩
  show WPc t7_begin (WPm gT (d + 0)) F (43, [(2, ((38 : Nat) : Int)), (2, ((29 : Nat) : Int)), (0, 8)], [], hP44)
  refine bi7_begin_43 (h := hP44) (a := 38) (b := 29) (x := 8) ⟨rfl, rfl, by decide +kernel, by decide +kernel, ?_⟩
  show WPc t7_begin (WPm gT (d + 0)) F (51, [(2, ((38 : Nat) : Int)), (2, ((29 : Nat) : Int)), (0, 8)], [], hP45)
  refine bi7_begin_51 (h := hP45) (a := 38) (b := 29) (x := 8) ⟨rfl, rfl, by decide +kernel, ?_⟩
  show WPc t7_begin (WPm gT (d + 0)) F (56, [(2, ((38 : Nat) : Int)), (2, ((29 : Nat) : Int)), (0, 8)], [], hP46)
  refine bi7_begin_56 (h := hP46) (a := 38) (b := 29) (x := 8) ⟨rfl, rfl, by decide +kernel, ?_⟩
  show WPc t7_begin (WPm gT (d + 0)) F (61, [(2, ((38 : Nat) : Int)), (2, ((29 : Nat) : Int)), (0, 8)], [], hP47)
  refine bi7_begin_61 (h := hP47) (a := 38) (b := 29) (x := 8) ⟨rfl, ?_⟩
  exact q
theorem hPrun5 {d : Nat} {F : mPost} (q : F (9, 0) hP47) : WPm gT (d + 2) 90 [(2, ((4 : Nat) : Int))] hP12 F := by
  refine WPm_in g10_init (Nat.le_of_ble_eq_true rfl) ?_
  refine bi10_init_0 (h := hP12) (a := 4) ⟨rfl, by decide, ?_⟩
  show WPc t10_init (WPm gT (d + 1)) F (4, [(2, ((4 : Nat) : Int))], [], hP12)
  refine bi10_init_4 (h := hP12) (a := 4) ⟨rfl, rfl, ⟨by decide +kernel, by decide +kernel⟩, 29, by decide +kernel, rfl, by decide +kernel, ?_⟩
  refine hPrun6 ?_
  show WPc t10_init (WPm gT (d + 1)) F (12, [(2, ((4 : Nat) : Int))], [(2, ((29 : Nat) : Int)), (2, ((4 : Nat) : Int))], hP14)
  refine bi10_init_12 (h := hP14) (a := 4) (p := 29) ⟨by decide +kernel, ?_⟩
  show WPc t10_init (WPm gT (d + 1)) F (15, [(2, ((4 : Nat) : Int))], [], hP15)
  refine bi10_init_15 (h := hP15) (a := 4) ⟨rfl, rfl, ⟨by decide +kernel, by decide +kernel⟩, 38, by decide +kernel, rfl, by decide +kernel, ?_⟩
  refine hPrun7 ?_
  show WPc t10_init (WPm gT (d + 1)) F (23, [(2, ((4 : Nat) : Int))], [(2, ((38 : Nat) : Int)), (2, ((4 : Nat) : Int))], hP17)
  refine bi10_init_23 (h := hP17) (a := 4) (p := 38) ⟨by decide +kernel, ?_⟩
  show WPc t10_init (WPm gT (d + 1)) F (26, [(2, ((4 : Nat) : Int))], [], hP18)
  refine bi10_init_26 (h := hP18) (a := 4) ⟨rfl, rfl, rfl, ⟨by decide, by decide, by decide +kernel, by decide +kernel⟩, 42, by decide +kernel, by decide +kernel, ?_⟩
  show WPc t10_init (WPm gT (d + 1)) F (33, [(2, ((4 : Nat) : Int))], [], hP19)
  refine bi10_init_33 (h := hP19) (a := 4) ⟨rfl, rfl, rfl, ⟨by decide, by decide, by decide +kernel, by decide +kernel⟩, 43, by decide +kernel, by decide +kernel, ?_⟩
  show WPc t10_init (WPm gT (d + 1)) F (41, [(2, ((4 : Nat) : Int))], [], hP20)
  refine bi10_init_41 (h := hP20) (a := 4) ⟨rfl, by decide +kernel, rfl, by decide +kernel, by decide +kernel, ?_⟩
  try rw [show hP20.2.1 4 1 = 38 from by decide +kernel]
  try rw [show hP20.2.1 4 0 = 29 from by decide +kernel]
  refine hPrun8 ?_
  show WPc t10_init (WPm gT (d + 1)) F (52, [(2, ((4 : Nat) : Int))], [], hP47)
  refine bi10_init_52 (h := hP47) (a := 4) ⟨rfl, ?_⟩
  exact q
theorem hPrun9 {d : Nat} {F : mPost} (q : F (9, 0) hP50) : WPm gT (d + 1) 69 [(2, ((5 : Nat) : Int))] hP49 F := by
  refine c7_init (a := 5) (h := hP49) (by decide +kernel) (by decide) (fun i h1 h2 => by rcases (show i = 1 ∨ i = 2 ∨ i = 3 by omega) with z | z | z <;> subst z <;> decide +kernel) ⟨by decide +kernel, by decide +kernel⟩ ?_
  exact q
theorem hPrun11 {d : Nat} {F : mPost} (q : F (9, 0) hP55) : WPm gT (d + 1) 69 [(2, ((45 : Nat) : Int))] hP54 F := by
  refine c7_init (a := 45) (h := hP54) (by decide +kernel) (by decide) (fun i h1 h2 => by rcases (show i = 1 ∨ i = 2 ∨ i = 3 by omega) with z | z | z <;> subst z <;> decide +kernel) ⟨by decide +kernel, by decide +kernel⟩ ?_
  exact q
theorem hPrun12 {d : Nat} {F : mPost} (q : F (9, 0) hP58) : WPm gT (d + 1) 69 [(2, ((49 : Nat) : Int))] hP57 F := by
  refine c7_init (a := 49) (h := hP57) (by decide +kernel) (by decide) (fun i h1 h2 => by rcases (show i = 1 ∨ i = 2 ∨ i = 3 by omega) with z | z | z <;> subst z <;> decide +kernel) ⟨by decide +kernel, by decide +kernel⟩ ?_
  exact q
theorem hPrun13 {d : Nat} {F : mPost} (q : F (9, 0) hP61) : WPm gT (d + 1) 69 [(2, ((53 : Nat) : Int))] hP60 F := by
  refine c7_init (a := 53) (h := hP60) (by decide +kernel) (by decide) (fun i h1 h2 => by rcases (show i = 1 ∨ i = 2 ∨ i = 3 by omega) with z | z | z <;> subst z <;> decide +kernel) ⟨by decide +kernel, by decide +kernel⟩ ?_
  exact q
theorem hPrun14 {d : Nat} {F : mPost} (q : F (9, 0) hP64) : WPm gT (d + 1) 69 [(2, ((57 : Nat) : Int))] hP63 F := by
  refine c7_init (a := 57) (h := hP63) (by decide +kernel) (by decide) (fun i h1 h2 => by rcases (show i = 1 ∨ i = 2 ∨ i = 3 by omega) with z | z | z <;> subst z <;> decide +kernel) ⟨by decide +kernel, by decide +kernel⟩ ?_
  exact q
theorem hPrun15 {d : Nat} {F : mPost} (q : F (9, 0) hP67) : WPm gT (d + 1) 69 [(2, ((61 : Nat) : Int))] hP66 F := by
  refine c7_init (a := 61) (h := hP66) (by decide +kernel) (by decide) (fun i h1 h2 => by rcases (show i = 1 ∨ i = 2 ∨ i = 3 by omega) with z | z | z <;> subst z <;> decide +kernel) ⟨by decide +kernel, by decide +kernel⟩ ?_
  exact q
theorem hPrun16 {d : Nat} {F : mPost} (q : F (9, 0) hP70) : WPm gT (d + 1) 69 [(2, ((65 : Nat) : Int))] hP69 F := by
  refine c7_init (a := 65) (h := hP69) (by decide +kernel) (by decide) (fun i h1 h2 => by rcases (show i = 1 ∨ i = 2 ∨ i = 3 by omega) with z | z | z <;> subst z <;> decide +kernel) ⟨by decide +kernel, by decide +kernel⟩ ?_
  exact q
theorem hPrun17 {d : Nat} {F : mPost} (q : F (9, 0) hP73) : WPm gT (d + 1) 69 [(2, ((69 : Nat) : Int))] hP72 F := by
  refine c7_init (a := 69) (h := hP72) (by decide +kernel) (by decide) (fun i h1 h2 => by rcases (show i = 1 ∨ i = 2 ∨ i = 3 by omega) with z | z | z <;> subst z <;> decide +kernel) ⟨by decide +kernel, by decide +kernel⟩ ?_
  exact q
theorem hPrun18 {d : Nat} {F : mPost} (q : F (9, 0) hP76) : WPm gT (d + 1) 69 [(2, ((73 : Nat) : Int))] hP75 F := by
  refine c7_init (a := 73) (h := hP75) (by decide +kernel) (by decide) (fun i h1 h2 => by rcases (show i = 1 ∨ i = 2 ∨ i = 3 by omega) with z | z | z <;> subst z <;> decide +kernel) ⟨by decide +kernel, by decide +kernel⟩ ?_
  exact q
theorem hPrun19 {d : Nat} {F : mPost} (q : F (9, 0) hP79) : WPm gT (d + 1) 69 [(2, ((77 : Nat) : Int))] hP78 F := by
  refine c7_init (a := 77) (h := hP78) (by decide +kernel) (by decide) (fun i h1 h2 => by rcases (show i = 1 ∨ i = 2 ∨ i = 3 by omega) with z | z | z <;> subst z <;> decide +kernel) ⟨by decide +kernel, by decide +kernel⟩ ?_
  exact q
theorem hPrun20 {d : Nat} {F : mPost} (q : F (9, 0) hP82) : WPm gT (d + 1) 69 [(2, ((81 : Nat) : Int))] hP81 F := by
  refine c7_init (a := 81) (h := hP81) (by decide +kernel) (by decide) (fun i h1 h2 => by rcases (show i = 1 ∨ i = 2 ∨ i = 3 by omega) with z | z | z <;> subst z <;> decide +kernel) ⟨by decide +kernel, by decide +kernel⟩ ?_
  exact q
theorem hPrun10 {d : Nat} {F : mPost} (q : F (9, 0) hP83) : WPm gT (d + 2) 25 [(2, ((9 : Nat) : Int))] hP52 F := by
  refine WPm_in g3_init (Nat.le_of_ble_eq_true rfl) ?_
  refine bi3_init_0 (h := hP52) (a := 9) ⟨rfl, by decide, ?_⟩
  show WPc t3_init (WPm gT (d + 1)) F (4, [(2, ((9 : Nat) : Int)), (9, 0)], [], hP52)
  refine bi3_init_4 (h := hP52) (a := 9) ⟨rfl, rfl, rfl, ⟨by decide, by decide, by decide +kernel, by decide +kernel⟩, 44, by decide +kernel, by decide +kernel, ?_⟩
  show WPc t3_init (WPm gT (d + 1)) F (13, [(2, ((9 : Nat) : Int)), (9, 0)], [], hP53)
  refine bi3_init_13 (h := hP53) (a := 9) ⟨rfl, rfl, ?_⟩
  show WPc t3_init (WPm gT (d + 1)) F (15, [(2, ((9 : Nat) : Int)), (0, 0)], [], hP53)
  refine bi3_init_15 (h := hP53) (a := 9) (x := 0) ⟨rfl, rfl, rfl, fun z => absurd z (by decide), fun _ => ?_⟩
  show WPc t3_init (WPm gT (d + 1)) F (21, [(2, ((9 : Nat) : Int)), (0, 0)], [], hP53)
  refine bi3_init_21 (h := hP53) (a := 9) (x := 0) ⟨rfl, by decide +kernel, rfl, rfl, ⟨by decide +kernel, by decide +kernel⟩, 45, by decide +kernel, rfl, by decide +kernel, ?_⟩
  try rw [show hP53.2.1 9 0 = 44 from by decide +kernel]
  refine hPrun11 ?_
  show WPc t3_init (WPm gT (d + 1)) F (33, [(2, ((9 : Nat) : Int)), (0, 0)], [(2, ((45 : Nat) : Int)), (0, 0), (2, ((44 : Nat) : Int))], hP55)
  refine bi3_init_33 (h := hP55) (a := 9) (p := 45) (v := 44) (x := 0) ⟨by decide +kernel, ⟨by decide, by decide +kernel⟩, ?_⟩
  show WPc t3_init (WPm gT (d + 1)) F (34, [(2, ((9 : Nat) : Int)), (0, 0)], [], hP56)
  refine bi3_init_34 (h := hP56) (a := 9) (x := 0) ⟨rfl, rfl, ?_⟩
  rw [show w32 (0 + 1) = 1 from w32_id (by decide) (by decide)]
  show WPc t3_init (WPm gT (d + 1)) F (15, [(2, ((9 : Nat) : Int)), (0, 1)], [], hP56)
  refine bi3_init_15 (h := hP56) (a := 9) (x := 1) ⟨rfl, rfl, rfl, fun z => absurd z (by decide), fun _ => ?_⟩
  show WPc t3_init (WPm gT (d + 1)) F (21, [(2, ((9 : Nat) : Int)), (0, 1)], [], hP56)
  refine bi3_init_21 (h := hP56) (a := 9) (x := 1) ⟨rfl, by decide +kernel, rfl, rfl, ⟨by decide +kernel, by decide +kernel⟩, 49, by decide +kernel, rfl, by decide +kernel, ?_⟩
  try rw [show hP56.2.1 9 0 = 44 from by decide +kernel]
  refine hPrun12 ?_
  show WPc t3_init (WPm gT (d + 1)) F (33, [(2, ((9 : Nat) : Int)), (0, 1)], [(2, ((49 : Nat) : Int)), (0, 1), (2, ((44 : Nat) : Int))], hP58)
  refine bi3_init_33 (h := hP58) (a := 9) (p := 49) (v := 44) (x := 1) ⟨by decide +kernel, ⟨by decide, by decide +kernel⟩, ?_⟩
  show WPc t3_init (WPm gT (d + 1)) F (34, [(2, ((9 : Nat) : Int)), (0, 1)], [], hP59)
  refine bi3_init_34 (h := hP59) (a := 9) (x := 1) ⟨rfl, rfl, ?_⟩
  rw [show w32 (1 + 1) = 2 from w32_id (by decide) (by decide)]
  show WPc t3_init (WPm gT (d + 1)) F (15, [(2, ((9 : Nat) : Int)), (0, 2)], [], hP59)
  refine bi3_init_15 (h := hP59) (a := 9) (x := 2) ⟨rfl, rfl, rfl, fun z => absurd z (by decide), fun _ => ?_⟩
  show WPc t3_init (WPm gT (d + 1)) F (21, [(2, ((9 : Nat) : Int)), (0, 2)], [], hP59)
  refine bi3_init_21 (h := hP59) (a := 9) (x := 2) ⟨rfl, by decide +kernel, rfl, rfl, ⟨by decide +kernel, by decide +kernel⟩, 53, by decide +kernel, rfl, by decide +kernel, ?_⟩
  try rw [show hP59.2.1 9 0 = 44 from by decide +kernel]
  refine hPrun13 ?_
  show WPc t3_init (WPm gT (d + 1)) F (33, [(2, ((9 : Nat) : Int)), (0, 2)], [(2, ((53 : Nat) : Int)), (0, 2), (2, ((44 : Nat) : Int))], hP61)
  refine bi3_init_33 (h := hP61) (a := 9) (p := 53) (v := 44) (x := 2) ⟨by decide +kernel, ⟨by decide, by decide +kernel⟩, ?_⟩
  show WPc t3_init (WPm gT (d + 1)) F (34, [(2, ((9 : Nat) : Int)), (0, 2)], [], hP62)
  refine bi3_init_34 (h := hP62) (a := 9) (x := 2) ⟨rfl, rfl, ?_⟩
  rw [show w32 (2 + 1) = 3 from w32_id (by decide) (by decide)]
  show WPc t3_init (WPm gT (d + 1)) F (15, [(2, ((9 : Nat) : Int)), (0, 3)], [], hP62)
  refine bi3_init_15 (h := hP62) (a := 9) (x := 3) ⟨rfl, rfl, rfl, fun z => absurd z (by decide), fun _ => ?_⟩
  show WPc t3_init (WPm gT (d + 1)) F (21, [(2, ((9 : Nat) : Int)), (0, 3)], [], hP62)
  refine bi3_init_21 (h := hP62) (a := 9) (x := 3) ⟨rfl, by decide +kernel, rfl, rfl, ⟨by decide +kernel, by decide +kernel⟩, 57, by decide +kernel, rfl, by decide +kernel, ?_⟩
  try rw [show hP62.2.1 9 0 = 44 from by decide +kernel]
  refine hPrun14 ?_
  show WPc t3_init (WPm gT (d + 1)) F (33, [(2, ((9 : Nat) : Int)), (0, 3)], [(2, ((57 : Nat) : Int)), (0, 3), (2, ((44 : Nat) : Int))], hP64)
  refine bi3_init_33 (h := hP64) (a := 9) (p := 57) (v := 44) (x := 3) ⟨by decide +kernel, ⟨by decide, by decide +kernel⟩, ?_⟩
  show WPc t3_init (WPm gT (d + 1)) F (34, [(2, ((9 : Nat) : Int)), (0, 3)], [], hP65)
  refine bi3_init_34 (h := hP65) (a := 9) (x := 3) ⟨rfl, rfl, ?_⟩
  rw [show w32 (3 + 1) = 4 from w32_id (by decide) (by decide)]
  show WPc t3_init (WPm gT (d + 1)) F (15, [(2, ((9 : Nat) : Int)), (0, 4)], [], hP65)
  refine bi3_init_15 (h := hP65) (a := 9) (x := 4) ⟨rfl, rfl, rfl, fun z => absurd z (by decide), fun _ => ?_⟩
  show WPc t3_init (WPm gT (d + 1)) F (21, [(2, ((9 : Nat) : Int)), (0, 4)], [], hP65)
  refine bi3_init_21 (h := hP65) (a := 9) (x := 4) ⟨rfl, by decide +kernel, rfl, rfl, ⟨by decide +kernel, by decide +kernel⟩, 61, by decide +kernel, rfl, by decide +kernel, ?_⟩
  try rw [show hP65.2.1 9 0 = 44 from by decide +kernel]
  refine hPrun15 ?_
  show WPc t3_init (WPm gT (d + 1)) F (33, [(2, ((9 : Nat) : Int)), (0, 4)], [(2, ((61 : Nat) : Int)), (0, 4), (2, ((44 : Nat) : Int))], hP67)
  refine bi3_init_33 (h := hP67) (a := 9) (p := 61) (v := 44) (x := 4) ⟨by decide +kernel, ⟨by decide, by decide +kernel⟩, ?_⟩
  show WPc t3_init (WPm gT (d + 1)) F (34, [(2, ((9 : Nat) : Int)), (0, 4)], [], hP68)
  refine bi3_init_34 (h := hP68) (a := 9) (x := 4) ⟨rfl, rfl, ?_⟩
  rw [show w32 (4 + 1) = 5 from w32_id (by decide) (by decide)]
  show WPc t3_init (WPm gT (d + 1)) F (15, [(2, ((9 : Nat) : Int)), (0, 5)], [], hP68)
  refine bi3_init_15 (h := hP68) (a := 9) (x := 5) ⟨rfl, rfl, rfl, fun z => absurd z (by decide), fun _ => ?_⟩
  show WPc t3_init (WPm gT (d + 1)) F (21, [(2, ((9 : Nat) : Int)), (0, 5)], [], hP68)
  refine bi3_init_21 (h := hP68) (a := 9) (x := 5) ⟨rfl, by decide +kernel, rfl, rfl, ⟨by decide +kernel, by decide +kernel⟩, 65, by decide +kernel, rfl, by decide +kernel, ?_⟩
  try rw [show hP68.2.1 9 0 = 44 from by decide +kernel]
  refine hPrun16 ?_
  show WPc t3_init (WPm gT (d + 1)) F (33, [(2, ((9 : Nat) : Int)), (0, 5)], [(2, ((65 : Nat) : Int)), (0, 5), (2, ((44 : Nat) : Int))], hP70)
  refine bi3_init_33 (h := hP70) (a := 9) (p := 65) (v := 44) (x := 5) ⟨by decide +kernel, ⟨by decide, by decide +kernel⟩, ?_⟩
  show WPc t3_init (WPm gT (d + 1)) F (34, [(2, ((9 : Nat) : Int)), (0, 5)], [], hP71)
  refine bi3_init_34 (h := hP71) (a := 9) (x := 5) ⟨rfl, rfl, ?_⟩
  rw [show w32 (5 + 1) = 6 from w32_id (by decide) (by decide)]
  show WPc t3_init (WPm gT (d + 1)) F (15, [(2, ((9 : Nat) : Int)), (0, 6)], [], hP71)
  refine bi3_init_15 (h := hP71) (a := 9) (x := 6) ⟨rfl, rfl, rfl, fun z => absurd z (by decide), fun _ => ?_⟩
  show WPc t3_init (WPm gT (d + 1)) F (21, [(2, ((9 : Nat) : Int)), (0, 6)], [], hP71)
  refine bi3_init_21 (h := hP71) (a := 9) (x := 6) ⟨rfl, by decide +kernel, rfl, rfl, ⟨by decide +kernel, by decide +kernel⟩, 69, by decide +kernel, rfl, by decide +kernel, ?_⟩
  try rw [show hP71.2.1 9 0 = 44 from by decide +kernel]
  refine hPrun17 ?_
  show WPc t3_init (WPm gT (d + 1)) F (33, [(2, ((9 : Nat) : Int)), (0, 6)], [(2, ((69 : Nat) : Int)), (0, 6), (2, ((44 : Nat) : Int))], hP73)
  refine bi3_init_33 (h := hP73) (a := 9) (p := 69) (v := 44) (x := 6) ⟨by decide +kernel, ⟨by decide, by decide +kernel⟩, ?_⟩
  show WPc t3_init (WPm gT (d + 1)) F (34, [(2, ((9 : Nat) : Int)), (0, 6)], [], hP74)
  refine bi3_init_34 (h := hP74) (a := 9) (x := 6) ⟨rfl, rfl, ?_⟩
  rw [show w32 (6 + 1) = 7 from w32_id (by decide) (by decide)]
  show WPc t3_init (WPm gT (d + 1)) F (15, [(2, ((9 : Nat) : Int)), (0, 7)], [], hP74)
  refine bi3_init_15 (h := hP74) (a := 9) (x := 7) ⟨rfl, rfl, rfl, fun z => absurd z (by decide), fun _ => ?_⟩
  show WPc t3_init (WPm gT (d + 1)) F (21, [(2, ((9 : Nat) : Int)), (0, 7)], [], hP74)
  refine bi3_init_21 (h := hP74) (a := 9) (x := 7) ⟨rfl, by decide +kernel, rfl, rfl, ⟨by decide +kernel, by decide +kernel⟩, 73, by decide +kernel, rfl, by decide +kernel, ?_⟩
  try rw [show hP74.2.1 9 0 = 44 from by decide +kernel]
  refine hPrun18 ?_
  show WPc t3_init (WPm gT (d + 1)) F (33, [(2, ((9 : Nat) : Int)), (0, 7)], [(2, ((73 : Nat) : Int)), (0, 7), (2, ((44 : Nat) : Int))], hP76)
  refine bi3_init_33 (h := hP76) (a := 9) (p := 73) (v := 44) (x := 7) ⟨by decide +kernel, ⟨by decide, by decide +kernel⟩, ?_⟩
  show WPc t3_init (WPm gT (d + 1)) F (34, [(2, ((9 : Nat) : Int)), (0, 7)], [], hP77)
  refine bi3_init_34 (h := hP77) (a := 9) (x := 7) ⟨rfl, rfl, ?_⟩
  rw [show w32 (7 + 1) = 8 from w32_id (by decide) (by decide)]
  show WPc t3_init (WPm gT (d + 1)) F (15, [(2, ((9 : Nat) : Int)), (0, 8)], [], hP77)
  refine bi3_init_15 (h := hP77) (a := 9) (x := 8) ⟨rfl, rfl, rfl, fun z => absurd z (by decide), fun _ => ?_⟩
  show WPc t3_init (WPm gT (d + 1)) F (21, [(2, ((9 : Nat) : Int)), (0, 8)], [], hP77)
  refine bi3_init_21 (h := hP77) (a := 9) (x := 8) ⟨rfl, by decide +kernel, rfl, rfl, ⟨by decide +kernel, by decide +kernel⟩, 77, by decide +kernel, rfl, by decide +kernel, ?_⟩
  try rw [show hP77.2.1 9 0 = 44 from by decide +kernel]
  refine hPrun19 ?_
  show WPc t3_init (WPm gT (d + 1)) F (33, [(2, ((9 : Nat) : Int)), (0, 8)], [(2, ((77 : Nat) : Int)), (0, 8), (2, ((44 : Nat) : Int))], hP79)
  refine bi3_init_33 (h := hP79) (a := 9) (p := 77) (v := 44) (x := 8) ⟨by decide +kernel, ⟨by decide, by decide +kernel⟩, ?_⟩
  show WPc t3_init (WPm gT (d + 1)) F (34, [(2, ((9 : Nat) : Int)), (0, 8)], [], hP80)
  refine bi3_init_34 (h := hP80) (a := 9) (x := 8) ⟨rfl, rfl, ?_⟩
  rw [show w32 (8 + 1) = 9 from w32_id (by decide) (by decide)]
  show WPc t3_init (WPm gT (d + 1)) F (15, [(2, ((9 : Nat) : Int)), (0, 9)], [], hP80)
  refine bi3_init_15 (h := hP80) (a := 9) (x := 9) ⟨rfl, rfl, rfl, fun z => absurd z (by decide), fun _ => ?_⟩
  show WPc t3_init (WPm gT (d + 1)) F (21, [(2, ((9 : Nat) : Int)), (0, 9)], [], hP80)
  refine bi3_init_21 (h := hP80) (a := 9) (x := 9) ⟨rfl, by decide +kernel, rfl, rfl, ⟨by decide +kernel, by decide +kernel⟩, 81, by decide +kernel, rfl, by decide +kernel, ?_⟩
  try rw [show hP80.2.1 9 0 = 44 from by decide +kernel]
  refine hPrun20 ?_
  show WPc t3_init (WPm gT (d + 1)) F (33, [(2, ((9 : Nat) : Int)), (0, 9)], [(2, ((81 : Nat) : Int)), (0, 9), (2, ((44 : Nat) : Int))], hP82)
  refine bi3_init_33 (h := hP82) (a := 9) (p := 81) (v := 44) (x := 9) ⟨by decide +kernel, ⟨by decide, by decide +kernel⟩, ?_⟩
  show WPc t3_init (WPm gT (d + 1)) F (34, [(2, ((9 : Nat) : Int)), (0, 9)], [], hP83)
  refine bi3_init_34 (h := hP83) (a := 9) (x := 9) ⟨rfl, rfl, ?_⟩
  rw [show w32 (9 + 1) = 10 from w32_id (by decide) (by decide)]
  show WPc t3_init (WPm gT (d + 1)) F (15, [(2, ((9 : Nat) : Int)), (0, 10)], [], hP83)
  refine bi3_init_15 (h := hP83) (a := 9) (x := 10) ⟨rfl, rfl, rfl, fun _ => ?_, fun z => absurd (by decide) z⟩
  show WPc t3_init (WPm gT (d + 1)) F (40, [(2, ((9 : Nat) : Int)), (0, 10)], [], hP83)
  refine bi3_init_40 (h := hP83) (a := 9) (x := 10) ⟨rfl, ?_⟩
  exact q
theorem hPrun22 {d : Nat} {F : mPost} (q : F (9, 0) hP92) : WPm gT (d + 1) 61 [(2, ((93 : Nat) : Int))] hP89 F := by
  refine WPm_in g6_init (Nat.le_of_ble_eq_true rfl) ?_
  refine bi6_init_0 (h := hP89) (a := 93) ⟨rfl, by decide, ?_⟩
  show WPc t6_init (WPm gT (d + 0)) F (4, [(2, ((93 : Nat) : Int))], [], hP89)
  refine bi6_init_4 (h := hP89) (a := 93) ⟨rfl, rfl, by decide +kernel, ?_⟩
  show WPc t6_init (WPm gT (d + 0)) F (9, [(2, ((93 : Nat) : Int))], [], hP90)
  refine bi6_init_9 (h := hP90) (a := 93) ⟨rfl, rfl, rfl, ⟨by decide, by decide, by decide +kernel, by decide +kernel⟩, 94, by decide +kernel, by decide +kernel, ?_⟩
  show WPc t6_init (WPm gT (d + 0)) F (17, [(2, ((93 : Nat) : Int))], [], hP91)
  refine bi6_init_17 (h := hP91) (a := 93) ⟨rfl, rfl, rfl, ⟨by decide, by decide, by decide +kernel, by decide +kernel⟩, 95, by decide +kernel, by decide +kernel, ?_⟩
  show WPc t6_init (WPm gT (d + 0)) F (25, [(2, ((93 : Nat) : Int))], [], hP92)
  refine bi6_init_25 (h := hP92) (a := 93) ⟨rfl, ?_⟩
  exact q
theorem hPrun21 {d : Nat} {F : mPost} (q : F (9, 0) hP99) : WPm gT (d + 2) 78 [(2, ((13 : Nat) : Int)), (2, ((4 : Nat) : Int))] hP88 F := by
  refine WPm_in g9_init (Nat.le_of_ble_eq_true rfl) ?_
  refine bi9_init_0 (h := hP88) (a := 13) (b := 4) ⟨rfl, by decide, ?_⟩
  show WPc t9_init (WPm gT (d + 1)) F (4, [(2, ((13 : Nat) : Int)), (2, ((4 : Nat) : Int))], [], hP88)
  refine bi9_init_4 (h := hP88) (a := 13) (b := 4) ⟨rfl, rfl, ⟨by decide +kernel, by decide +kernel⟩, 93, by decide +kernel, rfl, by decide +kernel, ?_⟩
  refine hPrun22 ?_
  show WPc t9_init (WPm gT (d + 1)) F (12, [(2, ((13 : Nat) : Int)), (2, ((4 : Nat) : Int))], [(2, ((93 : Nat) : Int)), (2, ((13 : Nat) : Int))], hP92)
  refine bi9_init_12 (h := hP92) (a := 13) (b := 4) (p := 93) ⟨by decide +kernel, ?_⟩
  show WPc t9_init (WPm gT (d + 1)) F (15, [(2, ((13 : Nat) : Int)), (2, ((4 : Nat) : Int))], [], hP93)
  refine bi9_init_15 (h := hP93) (a := 13) (b := 4) ⟨rfl, rfl, rfl, ⟨by decide, by decide, by decide +kernel, by decide +kernel⟩, 96, by decide +kernel, by decide +kernel, ?_⟩
  show WPc t9_init (WPm gT (d + 1)) F (23, [(2, ((13 : Nat) : Int)), (2, ((4 : Nat) : Int))], [], hP94)
  refine bi9_init_23 (h := hP94) (a := 13) (b := 4) ⟨rfl, rfl, rfl, ⟨by decide, by decide, by decide +kernel, by decide +kernel⟩, 97, by decide +kernel, by decide +kernel, ?_⟩
  show WPc t9_init (WPm gT (d + 1)) F (31, [(2, ((13 : Nat) : Int)), (2, ((4 : Nat) : Int))], [], hP95)
  refine bi9_init_31 (h := hP95) (a := 13) (b := 4) ⟨rfl, rfl, rfl, ⟨by decide, by decide, by decide +kernel, by decide +kernel⟩, 98, by decide +kernel, by decide +kernel, ?_⟩
  show WPc t9_init (WPm gT (d + 1)) F (39, [(2, ((13 : Nat) : Int)), (2, ((4 : Nat) : Int))], [], hP96)
  refine bi9_init_39 (h := hP96) (a := 13) (b := 4) ⟨rfl, rfl, rfl, ⟨by decide, by decide, by decide +kernel, by decide +kernel⟩, 99, by decide +kernel, by decide +kernel, ?_⟩
  show WPc t9_init (WPm gT (d + 1)) F (47, [(2, ((13 : Nat) : Int)), (2, ((4 : Nat) : Int))], [], hP97)
  refine bi9_init_47 (h := hP97) (a := 13) (b := 4) ⟨rfl, rfl, rfl, ⟨by decide, by decide, by decide +kernel, by decide +kernel⟩, 100, by decide +kernel, by decide +kernel, ?_⟩
  show WPc t9_init (WPm gT (d + 1)) F (55, [(2, ((13 : Nat) : Int)), (2, ((4 : Nat) : Int))], [], hP98)
  refine bi9_init_55 (h := hP98) (a := 13) (b := 4) ⟨rfl, rfl, by decide +kernel, ?_⟩
  show WPc t9_init (WPm gT (d + 1)) F (60, [(2, ((13 : Nat) : Int)), (2, ((4 : Nat) : Int))], [], hP99)
  refine bi9_init_60 (h := hP99) (a := 13) (b := 4) ⟨rfl, ?_⟩
  exact q
theorem hPrun23 {d : Nat} {F : mPost} (q : F (9, 0) hP105) : WPm gT (d + 1) 0 [(2, ((14 : Nat) : Int)), (2, ((4 : Nat) : Int))] hP101 F := by
  refine WPm_in g0_init (Nat.le_of_ble_eq_true rfl) ?_
  refine bi0_init_0 (h := hP101) (a := 14) (b := 4) ⟨rfl, by decide, ?_⟩
  show WPc t0_init (WPm gT (d + 0)) F (4, [(2, ((14 : Nat) : Int)), (2, ((4 : Nat) : Int))], [], hP101)
  refine bi0_init_4 (h := hP101) (a := 14) (b := 4) ⟨rfl, rfl, rfl, ⟨by decide, by decide, by decide +kernel, by decide +kernel⟩, 101, by decide +kernel, by decide +kernel, ?_⟩
  show WPc t0_init (WPm gT (d + 0)) F (12, [(2, ((14 : Nat) : Int)), (2, ((4 : Nat) : Int))], [], hP102)
  refine bi0_init_12 (h := hP102) (a := 14) (b := 4) ⟨rfl, rfl, rfl, ⟨by decide, by decide, by decide +kernel, by decide +kernel⟩, 102, by decide +kernel, by decide +kernel, ?_⟩
  show WPc t0_init (WPm gT (d + 0)) F (20, [(2, ((14 : Nat) : Int)), (2, ((4 : Nat) : Int))], [], hP103)
  refine bi0_init_20 (h := hP103) (a := 14) (b := 4) ⟨rfl, rfl, rfl, ⟨by decide, by decide, by decide +kernel, by decide +kernel⟩, 103, by decide +kernel, by decide +kernel, ?_⟩
  show WPc t0_init (WPm gT (d + 0)) F (28, [(2, ((14 : Nat) : Int)), (2, ((4 : Nat) : Int))], [], hP104)
  refine bi0_init_28 (h := hP104) (a := 14) (b := 4) ⟨rfl, rfl, by decide +kernel, ?_⟩
  show WPc t0_init (WPm gT (d + 0)) F (33, [(2, ((14 : Nat) : Int)), (2, ((4 : Nat) : Int))], [], hP105)
  refine bi0_init_33 (h := hP105) (a := 14) (b := 4) ⟨rfl, ?_⟩
  exact q
theorem hPrun24 {d : Nat} {F : mPost} (q : F (9, 0) hP111) : WPm gT (d + 1) 49 [(2, ((15 : Nat) : Int)), (2, ((4 : Nat) : Int))] hP107 F := by
  refine WPm_in g5_init (Nat.le_of_ble_eq_true rfl) ?_
  refine bi5_init_0 (h := hP107) (a := 15) (b := 4) ⟨rfl, by decide, ?_⟩
  show WPc t5_init (WPm gT (d + 0)) F (4, [(2, ((15 : Nat) : Int)), (2, ((4 : Nat) : Int))], [], hP107)
  refine bi5_init_4 (h := hP107) (a := 15) (b := 4) ⟨rfl, rfl, rfl, ⟨by decide, by decide, by decide +kernel, by decide +kernel⟩, 104, by decide +kernel, by decide +kernel, ?_⟩
  show WPc t5_init (WPm gT (d + 0)) F (12, [(2, ((15 : Nat) : Int)), (2, ((4 : Nat) : Int))], [], hP108)
  refine bi5_init_12 (h := hP108) (a := 15) (b := 4) ⟨rfl, rfl, rfl, ⟨by decide, by decide, by decide +kernel, by decide +kernel⟩, 105, by decide +kernel, by decide +kernel, ?_⟩
  show WPc t5_init (WPm gT (d + 0)) F (20, [(2, ((15 : Nat) : Int)), (2, ((4 : Nat) : Int))], [], hP109)
  refine bi5_init_20 (h := hP109) (a := 15) (b := 4) ⟨rfl, rfl, rfl, ⟨by decide, by decide, by decide +kernel, by decide +kernel⟩, 106, by decide +kernel, by decide +kernel, ?_⟩
  show WPc t5_init (WPm gT (d + 0)) F (28, [(2, ((15 : Nat) : Int)), (2, ((4 : Nat) : Int))], [], hP110)
  refine bi5_init_28 (h := hP110) (a := 15) (b := 4) ⟨rfl, rfl, by decide +kernel, ?_⟩
  show WPc t5_init (WPm gT (d + 0)) F (33, [(2, ((15 : Nat) : Int)), (2, ((4 : Nat) : Int))], [], hP111)
  refine bi5_init_33 (h := hP111) (a := 15) (b := 4) ⟨rfl, ?_⟩
  exact q
theorem hPrun25 {d : Nat} {F : mPost} (q : F (9, 0) hP116) : WPm gT (d + 1) 72 [(2, ((85 : Nat) : Int))] hP114 F := by
  refine WPm_in g8_init (Nat.le_of_ble_eq_true rfl) ?_
  refine bi8_init_0 (h := hP114) (a := 85) ⟨rfl, by decide, ?_⟩
  show WPc t8_init (WPm gT (d + 0)) F (4, [(2, ((85 : Nat) : Int))], [], hP114)
  refine bi8_init_4 (h := hP114) (a := 85) ⟨rfl, rfl, rfl, ⟨by decide, by decide, by decide +kernel, by decide +kernel⟩, 86, by decide +kernel, by decide +kernel, ?_⟩
  show WPc t8_init (WPm gT (d + 0)) F (12, [(2, ((85 : Nat) : Int))], [], hP115)
  refine bi8_init_12 (h := hP115) (a := 85) ⟨rfl, rfl, by decide +kernel, ?_⟩
  show WPc t8_init (WPm gT (d + 0)) F (17, [(2, ((85 : Nat) : Int))], [], hP116)
  refine bi8_init_17 (h := hP116) (a := 85) ⟨rfl, ?_⟩
  exact q
theorem hPrun26 {d : Nat} {F : mPost} (q : F (9, 0) hP120) : WPm gT (d + 1) 72 [(2, ((87 : Nat) : Int))] hP118 F := by
  refine WPm_in g8_init (Nat.le_of_ble_eq_true rfl) ?_
  refine bi8_init_0 (h := hP118) (a := 87) ⟨rfl, by decide, ?_⟩
  show WPc t8_init (WPm gT (d + 0)) F (4, [(2, ((87 : Nat) : Int))], [], hP118)
  refine bi8_init_4 (h := hP118) (a := 87) ⟨rfl, rfl, rfl, ⟨by decide, by decide, by decide +kernel, by decide +kernel⟩, 88, by decide +kernel, by decide +kernel, ?_⟩
  show WPc t8_init (WPm gT (d + 0)) F (12, [(2, ((87 : Nat) : Int))], [], hP119)
  refine bi8_init_12 (h := hP119) (a := 87) ⟨rfl, rfl, by decide +kernel, ?_⟩
  show WPc t8_init (WPm gT (d + 0)) F (17, [(2, ((87 : Nat) : Int))], [], hP120)
  refine bi8_init_17 (h := hP120) (a := 87) ⟨rfl, ?_⟩
  exact q
theorem hPrun27 {d : Nat} {F : mPost} (q : F (9, 0) hP124) : WPm gT (d + 1) 72 [(2, ((89 : Nat) : Int))] hP122 F := by
  refine WPm_in g8_init (Nat.le_of_ble_eq_true rfl) ?_
  refine bi8_init_0 (h := hP122) (a := 89) ⟨rfl, by decide, ?_⟩
  show WPc t8_init (WPm gT (d + 0)) F (4, [(2, ((89 : Nat) : Int))], [], hP122)
  refine bi8_init_4 (h := hP122) (a := 89) ⟨rfl, rfl, rfl, ⟨by decide, by decide, by decide +kernel, by decide +kernel⟩, 90, by decide +kernel, by decide +kernel, ?_⟩
  show WPc t8_init (WPm gT (d + 0)) F (12, [(2, ((89 : Nat) : Int))], [], hP123)
  refine bi8_init_12 (h := hP123) (a := 89) ⟨rfl, rfl, by decide +kernel, ?_⟩
  show WPc t8_init (WPm gT (d + 0)) F (17, [(2, ((89 : Nat) : Int))], [], hP124)
  refine bi8_init_17 (h := hP124) (a := 89) ⟨rfl, ?_⟩
  exact q
theorem hPrun28 {d : Nat} {F : mPost} (q : F (9, 0) hP128) : WPm gT (d + 1) 72 [(2, ((91 : Nat) : Int))] hP126 F := by
  refine WPm_in g8_init (Nat.le_of_ble_eq_true rfl) ?_
  refine bi8_init_0 (h := hP126) (a := 91) ⟨rfl, by decide, ?_⟩
  show WPc t8_init (WPm gT (d + 0)) F (4, [(2, ((91 : Nat) : Int))], [], hP126)
  refine bi8_init_4 (h := hP126) (a := 91) ⟨rfl, rfl, rfl, ⟨by decide, by decide, by decide +kernel, by decide +kernel⟩, 92, by decide +kernel, by decide +kernel, ?_⟩
  show WPc t8_init (WPm gT (d + 0)) F (12, [(2, ((91 : Nat) : Int))], [], hP127)
  refine bi8_init_12 (h := hP127) (a := 91) ⟨rfl, rfl, by decide +kernel, ?_⟩
  show WPc t8_init (WPm gT (d + 0)) F (17, [(2, ((91 : Nat) : Int))], [], hP128)
  refine bi8_init_17 (h := hP128) (a := 91) ⟨rfl, ?_⟩
  exact q
theorem hPrun1 {d : Nat} {F : mPost} (q : F (9, 0) hP129) : WPm gT (d + 3) 119 [(2, ((1 : Nat) : Int))] hP0 F := by
  refine WPm_in g11_init (Nat.le_of_ble_eq_true rfl) ?_
  refine bi11_init_0 (h := hP0) (a := 1) ⟨rfl, by decide, ?_⟩
  show WPc t11_init (WPm gT (d + 2)) F (4, [(2, ((1 : Nat) : Int)), (9, 0)], [], hP0)
  refine bi11_init_4 (h := hP0) (a := 1) ⟨rfl, rfl, rfl, ⟨by decide, by decide, by decide +kernel, by decide +kernel⟩, 2, by decide +kernel, by decide +kernel, ?_⟩
  show WPc t11_init (WPm gT (d + 2)) F (13, [(2, ((1 : Nat) : Int)), (9, 0)], [], hP1)
  refine bi11_init_13 (h := hP1) (a := 1) ⟨rfl, rfl, ⟨by decide +kernel, by decide +kernel⟩, 3, by decide +kernel, rfl, by decide +kernel, ?_⟩
  refine hPrun2 ?_
  show WPc t11_init (WPm gT (d + 2)) F (21, [(2, ((1 : Nat) : Int)), (9, 0)], [(2, ((3 : Nat) : Int)), (2, ((1 : Nat) : Int))], hP10)
  refine bi11_init_21 (h := hP10) (a := 1) (p := 3) ⟨by decide +kernel, ?_⟩
  show WPc t11_init (WPm gT (d + 2)) F (24, [(2, ((1 : Nat) : Int)), (9, 0)], [], hP11)
  refine bi11_init_24 (h := hP11) (a := 1) ⟨rfl, rfl, ⟨by decide +kernel, by decide +kernel⟩, 4, by decide +kernel, rfl, by decide +kernel, ?_⟩
  refine hPrun5 ?_
  show WPc t11_init (WPm gT (d + 2)) F (32, [(2, ((1 : Nat) : Int)), (9, 0)], [(2, ((4 : Nat) : Int)), (2, ((1 : Nat) : Int))], hP47)
  refine bi11_init_32 (h := hP47) (a := 1) (p := 4) ⟨by decide +kernel, ?_⟩
  show WPc t11_init (WPm gT (d + 2)) F (35, [(2, ((1 : Nat) : Int)), (9, 0)], [], hP48)
  refine bi11_init_35 (h := hP48) (a := 1) ⟨rfl, rfl, ⟨by decide +kernel, by decide +kernel⟩, 5, by decide +kernel, rfl, by decide +kernel, ?_⟩
  refine hPrun9 ?_
  show WPc t11_init (WPm gT (d + 2)) F (43, [(2, ((1 : Nat) : Int)), (9, 0)], [(2, ((5 : Nat) : Int)), (2, ((1 : Nat) : Int))], hP50)
  refine bi11_init_43 (h := hP50) (a := 1) (p := 5) ⟨by decide +kernel, ?_⟩
  show WPc t11_init (WPm gT (d + 2)) F (46, [(2, ((1 : Nat) : Int)), (9, 0)], [], hP51)
  refine bi11_init_46 (h := hP51) (a := 1) ⟨rfl, rfl, ⟨by decide +kernel, by decide +kernel⟩, 9, by decide +kernel, rfl, by decide +kernel, ?_⟩
  refine hPrun10 ?_
  show WPc t11_init (WPm gT (d + 2)) F (54, [(2, ((1 : Nat) : Int)), (9, 0)], [(2, ((9 : Nat) : Int)), (2, ((1 : Nat) : Int))], hP83)
  refine bi11_init_54 (h := hP83) (a := 1) (p := 9) ⟨by decide +kernel, ?_⟩
  show WPc t11_init (WPm gT (d + 2)) F (57, [(2, ((1 : Nat) : Int)), (9, 0)], [], hP84)
  refine bi11_init_57 (h := hP84) (a := 1) ⟨rfl, rfl, rfl, ⟨by decide, by decide, by decide +kernel, by decide +kernel⟩, 10, by decide +kernel, by decide +kernel, ?_⟩
  show WPc t11_init (WPm gT (d + 2)) F (65, [(2, ((1 : Nat) : Int)), (9, 0)], [], hP85)
  refine bi11_init_65 (h := hP85) (a := 1) ⟨rfl, rfl, rfl, ⟨by decide, by decide, by decide +kernel, by decide +kernel⟩, 11, by decide +kernel, by decide +kernel, ?_⟩
  show WPc t11_init (WPm gT (d + 2)) F (73, [(2, ((1 : Nat) : Int)), (9, 0)], [], hP86)
  refine bi11_init_73 (h := hP86) (a := 1) ⟨rfl, rfl, rfl, ⟨by decide, by decide, by decide +kernel, by decide +kernel⟩, 12, by decide +kernel, by decide +kernel, ?_⟩
  show WPc t11_init (WPm gT (d + 2)) F (81, [(2, ((1 : Nat) : Int)), (9, 0)], [], hP87)
  refine bi11_init_81 (h := hP87) (a := 1) ⟨rfl, rfl, ⟨by decide +kernel, by decide +kernel⟩, 13, by decide +kernel, rfl, rfl, by decide +kernel, by decide +kernel, ?_⟩
  try rw [show (mNew hP87 13 19 7).2.1 1 3 = 4 from by decide +kernel]
  refine hPrun21 ?_
  show WPc t11_init (WPm gT (d + 2)) F (93, [(2, ((1 : Nat) : Int)), (9, 0)], [(2, ((13 : Nat) : Int)), (2, ((1 : Nat) : Int))], hP99)
  refine bi11_init_93 (h := hP99) (a := 1) (p := 13) ⟨by decide +kernel, ?_⟩
  show WPc t11_init (WPm gT (d + 2)) F (96, [(2, ((1 : Nat) : Int)), (9, 0)], [], hP100)
  refine bi11_init_96 (h := hP100) (a := 1) ⟨rfl, rfl, ⟨by decide +kernel, by decide +kernel⟩, 14, by decide +kernel, rfl, rfl, by decide +kernel, by decide +kernel, ?_⟩
  try rw [show (mNew hP100 14 10 4).2.1 1 3 = 4 from by decide +kernel]
  refine hPrun23 ?_
  show WPc t11_init (WPm gT (d + 2)) F (108, [(2, ((1 : Nat) : Int)), (9, 0)], [(2, ((14 : Nat) : Int)), (2, ((1 : Nat) : Int))], hP105)
  refine bi11_init_108 (h := hP105) (a := 1) (p := 14) ⟨by decide +kernel, ?_⟩
  show WPc t11_init (WPm gT (d + 2)) F (111, [(2, ((1 : Nat) : Int)), (9, 0)], [], hP106)
  refine bi11_init_111 (h := hP106) (a := 1) ⟨rfl, rfl, ⟨by decide +kernel, by decide +kernel⟩, 15, by decide +kernel, rfl, rfl, by decide +kernel, by decide +kernel, ?_⟩
  try rw [show (mNew hP106 15 15 6).2.1 1 3 = 4 from by decide +kernel]
  refine hPrun24 ?_
  show WPc t11_init (WPm gT (d + 2)) F (123, [(2, ((1 : Nat) : Int)), (9, 0)], [(2, ((15 : Nat) : Int)), (2, ((1 : Nat) : Int))], hP111)
  refine bi11_init_123 (h := hP111) (a := 1) (p := 15) ⟨by decide +kernel, ?_⟩
  show WPc t11_init (WPm gT (d + 2)) F (126, [(2, ((1 : Nat) : Int)), (9, 0)], [], hP112)
  refine bi11_init_126 (h := hP112) (a := 1) ⟨rfl, rfl, rfl, ⟨by decide, by decide, by decide +kernel, by decide +kernel⟩, 16, by decide +kernel, by decide +kernel, ?_⟩
  show WPc t11_init (WPm gT (d + 2)) F (134, [(2, ((1 : Nat) : Int)), (9, 0)], [], hP113)
  refine bi11_init_134 (h := hP113) (a := 1) ⟨rfl, rfl, ?_⟩
  show WPc t11_init (WPm gT (d + 2)) F (136, [(2, ((1 : Nat) : Int)), (0, 0)], [], hP113)
  refine bi11_init_136 (h := hP113) (a := 1) (x := 0) ⟨rfl, rfl, rfl, fun z => absurd z (by decide), fun _ => ?_⟩
  show WPc t11_init (WPm gT (d + 2)) F (141, [(2, ((1 : Nat) : Int)), (0, 0)], [], hP113)
  refine bi11_init_141 (h := hP113) (a := 1) (x := 0) ⟨rfl, by decide +kernel, rfl, rfl, ⟨by decide +kernel, by decide +kernel⟩, 85, by decide +kernel, rfl, by decide +kernel, ?_⟩
  try rw [show hP113.2.1 1 6 = 10 from by decide +kernel]
  refine hPrun25 ?_
  show WPc t11_init (WPm gT (d + 2)) F (153, [(2, ((1 : Nat) : Int)), (0, 0)], [(2, ((85 : Nat) : Int)), (0, 0), (2, ((10 : Nat) : Int))], hP116)
  refine bi11_init_153 (h := hP116) (a := 1) (p := 85) (v := 10) (x := 0) ⟨by decide +kernel, ⟨by decide, by decide +kernel⟩, ?_⟩
  show WPc t11_init (WPm gT (d + 2)) F (154, [(2, ((1 : Nat) : Int)), (0, 0)], [], hP117)
  refine bi11_init_154 (h := hP117) (a := 1) (x := 0) ⟨rfl, rfl, ?_⟩
  rw [show w32 (0 + 1) = 1 from w32_id (by decide) (by decide)]
  show WPc t11_init (WPm gT (d + 2)) F (136, [(2, ((1 : Nat) : Int)), (0, 1)], [], hP117)
  refine bi11_init_136 (h := hP117) (a := 1) (x := 1) ⟨rfl, rfl, rfl, fun z => absurd z (by decide), fun _ => ?_⟩
  show WPc t11_init (WPm gT (d + 2)) F (141, [(2, ((1 : Nat) : Int)), (0, 1)], [], hP117)
  refine bi11_init_141 (h := hP117) (a := 1) (x := 1) ⟨rfl, by decide +kernel, rfl, rfl, ⟨by decide +kernel, by decide +kernel⟩, 87, by decide +kernel, rfl, by decide +kernel, ?_⟩
  try rw [show hP117.2.1 1 6 = 10 from by decide +kernel]
  refine hPrun26 ?_
  show WPc t11_init (WPm gT (d + 2)) F (153, [(2, ((1 : Nat) : Int)), (0, 1)], [(2, ((87 : Nat) : Int)), (0, 1), (2, ((10 : Nat) : Int))], hP120)
  refine bi11_init_153 (h := hP120) (a := 1) (p := 87) (v := 10) (x := 1) ⟨by decide +kernel, ⟨by decide, by decide +kernel⟩, ?_⟩
  show WPc t11_init (WPm gT (d + 2)) F (154, [(2, ((1 : Nat) : Int)), (0, 1)], [], hP121)
  refine bi11_init_154 (h := hP121) (a := 1) (x := 1) ⟨rfl, rfl, ?_⟩
  rw [show w32 (1 + 1) = 2 from w32_id (by decide) (by decide)]
  show WPc t11_init (WPm gT (d + 2)) F (136, [(2, ((1 : Nat) : Int)), (0, 2)], [], hP121)
  refine bi11_init_136 (h := hP121) (a := 1) (x := 2) ⟨rfl, rfl, rfl, fun z => absurd z (by decide), fun _ => ?_⟩
  show WPc t11_init (WPm gT (d + 2)) F (141, [(2, ((1 : Nat) : Int)), (0, 2)], [], hP121)
  refine bi11_init_141 (h := hP121) (a := 1) (x := 2) ⟨rfl, by decide +kernel, rfl, rfl, ⟨by decide +kernel, by decide +kernel⟩, 89, by decide +kernel, rfl, by decide +kernel, ?_⟩
  try rw [show hP121.2.1 1 6 = 10 from by decide +kernel]
  refine hPrun27 ?_
  show WPc t11_init (WPm gT (d + 2)) F (153, [(2, ((1 : Nat) : Int)), (0, 2)], [(2, ((89 : Nat) : Int)), (0, 2), (2, ((10 : Nat) : Int))], hP124)
  refine bi11_init_153 (h := hP124) (a := 1) (p := 89) (v := 10) (x := 2) ⟨by decide +kernel, ⟨by decide, by decide +kernel⟩, ?_⟩
  show WPc t11_init (WPm gT (d + 2)) F (154, [(2, ((1 : Nat) : Int)), (0, 2)], [], hP125)
  refine bi11_init_154 (h := hP125) (a := 1) (x := 2) ⟨rfl, rfl, ?_⟩
  rw [show w32 (2 + 1) = 3 from w32_id (by decide) (by decide)]
  show WPc t11_init (WPm gT (d + 2)) F (136, [(2, ((1 : Nat) : Int)), (0, 3)], [], hP125)
  refine bi11_init_136 (h := hP125) (a := 1) (x := 3) ⟨rfl, rfl, rfl, fun z => absurd z (by decide), fun _ => ?_⟩
  show WPc t11_init (WPm gT (d + 2)) F (141, [(2, ((1 : Nat) : Int)), (0, 3)], [], hP125)
  refine bi11_init_141 (h := hP125) (a := 1) (x := 3) ⟨rfl, by decide +kernel, rfl, rfl, ⟨by decide +kernel, by decide +kernel⟩, 91, by decide +kernel, rfl, by decide +kernel, ?_⟩
  try rw [show hP125.2.1 1 6 = 10 from by decide +kernel]
  refine hPrun28 ?_
  show WPc t11_init (WPm gT (d + 2)) F (153, [(2, ((1 : Nat) : Int)), (0, 3)], [(2, ((91 : Nat) : Int)), (0, 3), (2, ((10 : Nat) : Int))], hP128)
  refine bi11_init_153 (h := hP128) (a := 1) (p := 91) (v := 10) (x := 3) ⟨by decide +kernel, ⟨by decide, by decide +kernel⟩, ?_⟩
  show WPc t11_init (WPm gT (d + 2)) F (154, [(2, ((1 : Nat) : Int)), (0, 3)], [], hP129)
  refine bi11_init_154 (h := hP129) (a := 1) (x := 3) ⟨rfl, rfl, ?_⟩
  rw [show w32 (3 + 1) = 4 from w32_id (by decide) (by decide)]
  show WPc t11_init (WPm gT (d + 2)) F (136, [(2, ((1 : Nat) : Int)), (0, 4)], [], hP129)
  refine bi11_init_136 (h := hP129) (a := 1) (x := 4) ⟨rfl, rfl, rfl, fun _ => ?_, fun z => absurd (by decide) z⟩
  show WPc t11_init (WPm gT (d + 2)) F (160, [(2, ((1 : Nat) : Int)), (0, 4)], [], hP129)
  refine bi11_init_160 (h := hP129) (a := 1) (x := 4) ⟨rfl, ?_⟩
  exact q
