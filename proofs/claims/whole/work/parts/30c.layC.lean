/-! ===== a new PartyLine: its cells are those of the layout (printed by program) ===== -/
def Zr (h : mH) : Prop := (∀ b k, 161 ≤ b ∨ 16 ≤ k → h.2.1 b k = 0) ∧ (∀ b, 161 ≤ b → h.2.2.1 b = (0, 0))
theorem Zr.new {h : mH} {a kd n : Nat} (z : Zr h) (ha : a < 161) : Zr (mNew h a kd n) := by
  refine ⟨fun b k hb => ?_, fun b hb => ?_⟩
  · show (if b = a then 0 else h.2.1 b k) = 0
    split
    · rfl
    · exact z.1 b k hb
  · show (if b = a then (kd, n) else h.2.2.1 b) = (0, 0)
    rw [if_neg (by omega)]
    exact z.2 b hb
theorem Zr.put {h : mH} {a j x : Nat} (z : Zr h) (ha : a < 161) (hj : j < 16) : Zr (mPut h a j x) := by
  refine ⟨fun b k hb => ?_, z.2⟩
  show (if b = a ∧ k = j then x else h.2.1 b k) = 0
  rw [if_neg (by omega)]
  exact z.1 b k hb
theorem Zr.set {h : mH} {a j : Nat} {x : Int} (z : Zr h) : Zr (mSet h a j x) := z
theorem Zr.nwA {h : mH} {a j p ln : Nat} (z : Zr h) (ha : a < 161) (hp : p < 161) (hj : j < 16) : Zr (nwA h a j p ln) := (z.new hp).put ha hj
theorem Zr.st {h : mH} {a : Nat} (z : Zr h) (ha : a + 3 < 161) : Zr (nwS h a) := ((z.nwA (by omega) (by omega) (by omega)).nwA (by omega) (by omega) (by omega)).nwA (by omega) (by omega) (by omega)
theorem Zr.ln {h : mH} {a : Nat} (z : Zr h) (ha : a + 8 < 161) : Zr (nwL h a) := ((((((((z.set.set (a := a) (j := 1) (x := 2)).nwA (by omega) (by omega) (by omega)).nwA (by omega) (by omega) (by omega)).nwA (by omega) (by omega) (by omega)).nwA (by omega) (by omega) (by omega)).nwA (by omega) (by omega) (by omega)).nwA (by omega) (by omega) (by omega)).nwA (by omega) (by omega) (by omega)).nwA (by omega) (by omega) (by omega)
theorem zr0 : Zr hP0 := by
  refine ⟨fun b k hb => rfl, fun b hb => ?_⟩
  show (if b = 1 then (21, 13) else (0, 0)) = (0, 0)
  rw [if_neg (by omega)]
theorem zr1 : Zr hP1 := Zr.put (Zr.new zr0 (by decide)) (by decide) (by decide)
theorem zr2 : Zr hP2 := Zr.new zr1 (by decide)
theorem zr3 : Zr hP3 := Zr.new zr2 (by decide)
theorem zr4 : Zr hP4 := Zr.ln zr3 (by decide)
theorem zr5 : Zr hP5 := Zr.put zr4 (by decide) (by decide)
theorem zr6 : Zr hP6 := Zr.set zr5
theorem zr7 : Zr hP7 := Zr.new zr6 (by decide)
theorem zr8 : Zr hP8 := Zr.put (Zr.new zr7 (by decide)) (by decide) (by decide)
theorem zr9 : Zr hP9 := Zr.put zr8 (by decide) (by decide)
theorem zr10 : Zr hP10 := Zr.put (Zr.new zr9 (by decide)) (by decide) (by decide)
theorem zr11 : Zr hP11 := Zr.put zr10 (by decide) (by decide)
theorem zr12 : Zr hP12 := Zr.new zr11 (by decide)
theorem zr13 : Zr hP13 := Zr.new zr12 (by decide)
theorem zr14 : Zr hP14 := Zr.ln zr13 (by decide)
theorem zr15 : Zr hP15 := Zr.put zr14 (by decide) (by decide)
theorem zr16 : Zr hP16 := Zr.new zr15 (by decide)
theorem zr17 : Zr hP17 := Zr.st zr16 (by decide)
theorem zr18 : Zr hP18 := Zr.put zr17 (by decide) (by decide)
theorem zr19 : Zr hP19 := Zr.put (Zr.new zr18 (by decide)) (by decide) (by decide)
theorem zr20 : Zr hP20 := Zr.put (Zr.new zr19 (by decide)) (by decide) (by decide)
theorem zr21 : Zr hP21 := Zr.set zr20
theorem zr22 : Zr hP22 := Zr.set zr21
theorem zr23 : Zr hP23 := Zr.set zr22
theorem zr24 : Zr hP24 := Zr.set zr23
theorem zr25 : Zr hP25 := Zr.set zr24
theorem zr26 : Zr hP26 := Zr.set zr25
theorem zr27 : Zr hP27 := Zr.set zr26
theorem zr28 : Zr hP28 := Zr.set zr27
theorem zr29 : Zr hP29 := Zr.set zr28
theorem zr30 : Zr hP30 := Zr.set zr29
theorem zr31 : Zr hP31 := Zr.set zr30
theorem zr32 : Zr hP32 := Zr.set zr31
theorem zr33 : Zr hP33 := Zr.set zr32
theorem zr34 : Zr hP34 := Zr.set zr33
theorem zr35 : Zr hP35 := Zr.set zr34
theorem zr36 : Zr hP36 := Zr.set zr35
theorem zr37 : Zr hP37 := Zr.set zr36
theorem zr38 : Zr hP38 := Zr.set zr37
theorem zr39 : Zr hP39 := Zr.set zr38
theorem zr40 : Zr hP40 := Zr.set zr39
theorem zr41 : Zr hP41 := Zr.set zr40
theorem zr42 : Zr hP42 := Zr.set zr41
theorem zr43 : Zr hP43 := Zr.set zr42
theorem zr44 : Zr hP44 := Zr.set zr43
theorem zr45 : Zr hP45 := Zr.set zr44
theorem zr46 : Zr hP46 := Zr.set zr45
theorem zr47 : Zr hP47 := Zr.set zr46
theorem zr48 : Zr hP48 := Zr.put zr47 (by decide) (by decide)
theorem zr49 : Zr hP49 := Zr.new zr48 (by decide)
theorem zr50 : Zr hP50 := Zr.st zr49 (by decide)
theorem zr51 : Zr hP51 := Zr.put zr50 (by decide) (by decide)
theorem zr52 : Zr hP52 := Zr.new zr51 (by decide)
theorem zr53 : Zr hP53 := Zr.put (Zr.new zr52 (by decide)) (by decide) (by decide)
theorem zr54 : Zr hP54 := Zr.new zr53 (by decide)
theorem zr55 : Zr hP55 := Zr.st zr54 (by decide)
theorem zr56 : Zr hP56 := Zr.put zr55 (by decide) (by decide)
theorem zr57 : Zr hP57 := Zr.new zr56 (by decide)
theorem zr58 : Zr hP58 := Zr.st zr57 (by decide)
theorem zr59 : Zr hP59 := Zr.put zr58 (by decide) (by decide)
theorem zr60 : Zr hP60 := Zr.new zr59 (by decide)
theorem zr61 : Zr hP61 := Zr.st zr60 (by decide)
theorem zr62 : Zr hP62 := Zr.put zr61 (by decide) (by decide)
theorem zr63 : Zr hP63 := Zr.new zr62 (by decide)
theorem zr64 : Zr hP64 := Zr.st zr63 (by decide)
theorem zr65 : Zr hP65 := Zr.put zr64 (by decide) (by decide)
theorem zr66 : Zr hP66 := Zr.new zr65 (by decide)
theorem zr67 : Zr hP67 := Zr.st zr66 (by decide)
theorem zr68 : Zr hP68 := Zr.put zr67 (by decide) (by decide)
theorem zr69 : Zr hP69 := Zr.new zr68 (by decide)
theorem zr70 : Zr hP70 := Zr.st zr69 (by decide)
theorem zr71 : Zr hP71 := Zr.put zr70 (by decide) (by decide)
theorem zr72 : Zr hP72 := Zr.new zr71 (by decide)
theorem zr73 : Zr hP73 := Zr.st zr72 (by decide)
theorem zr74 : Zr hP74 := Zr.put zr73 (by decide) (by decide)
theorem zr75 : Zr hP75 := Zr.new zr74 (by decide)
theorem zr76 : Zr hP76 := Zr.st zr75 (by decide)
theorem zr77 : Zr hP77 := Zr.put zr76 (by decide) (by decide)
theorem zr78 : Zr hP78 := Zr.new zr77 (by decide)
theorem zr79 : Zr hP79 := Zr.st zr78 (by decide)
theorem zr80 : Zr hP80 := Zr.put zr79 (by decide) (by decide)
theorem zr81 : Zr hP81 := Zr.new zr80 (by decide)
theorem zr82 : Zr hP82 := Zr.st zr81 (by decide)
theorem zr83 : Zr hP83 := Zr.put zr82 (by decide) (by decide)
theorem zr84 : Zr hP84 := Zr.put zr83 (by decide) (by decide)
theorem zr85 : Zr hP85 := Zr.put (Zr.new zr84 (by decide)) (by decide) (by decide)
theorem zr86 : Zr hP86 := Zr.put (Zr.new zr85 (by decide)) (by decide) (by decide)
theorem zr87 : Zr hP87 := Zr.put (Zr.new zr86 (by decide)) (by decide) (by decide)
theorem zr88 : Zr hP88 := Zr.new zr87 (by decide)
theorem zr89 : Zr hP89 := Zr.new zr88 (by decide)
theorem zr90 : Zr hP90 := Zr.set zr89
theorem zr91 : Zr hP91 := Zr.put (Zr.new zr90 (by decide)) (by decide) (by decide)
theorem zr92 : Zr hP92 := Zr.put (Zr.new zr91 (by decide)) (by decide) (by decide)
theorem zr93 : Zr hP93 := Zr.put zr92 (by decide) (by decide)
theorem zr94 : Zr hP94 := Zr.put (Zr.new zr93 (by decide)) (by decide) (by decide)
theorem zr95 : Zr hP95 := Zr.put (Zr.new zr94 (by decide)) (by decide) (by decide)
theorem zr96 : Zr hP96 := Zr.put (Zr.new zr95 (by decide)) (by decide) (by decide)
theorem zr97 : Zr hP97 := Zr.put (Zr.new zr96 (by decide)) (by decide) (by decide)
theorem zr98 : Zr hP98 := Zr.put (Zr.new zr97 (by decide)) (by decide) (by decide)
theorem zr99 : Zr hP99 := Zr.put zr98 (by decide) (by decide)
theorem zr100 : Zr hP100 := Zr.put zr99 (by decide) (by decide)
theorem zr101 : Zr hP101 := Zr.new zr100 (by decide)
theorem zr102 : Zr hP102 := Zr.put (Zr.new zr101 (by decide)) (by decide) (by decide)
theorem zr103 : Zr hP103 := Zr.put (Zr.new zr102 (by decide)) (by decide) (by decide)
theorem zr104 : Zr hP104 := Zr.put (Zr.new zr103 (by decide)) (by decide) (by decide)
theorem zr105 : Zr hP105 := Zr.put zr104 (by decide) (by decide)
theorem zr106 : Zr hP106 := Zr.put zr105 (by decide) (by decide)
theorem zr107 : Zr hP107 := Zr.new zr106 (by decide)
theorem zr108 : Zr hP108 := Zr.put (Zr.new zr107 (by decide)) (by decide) (by decide)
theorem zr109 : Zr hP109 := Zr.put (Zr.new zr108 (by decide)) (by decide) (by decide)
theorem zr110 : Zr hP110 := Zr.put (Zr.new zr109 (by decide)) (by decide) (by decide)
theorem zr111 : Zr hP111 := Zr.put zr110 (by decide) (by decide)
theorem zr112 : Zr hP112 := Zr.put zr111 (by decide) (by decide)
theorem zr113 : Zr hP113 := Zr.put (Zr.new zr112 (by decide)) (by decide) (by decide)
theorem zr114 : Zr hP114 := Zr.new zr113 (by decide)
theorem zr115 : Zr hP115 := Zr.put (Zr.new zr114 (by decide)) (by decide) (by decide)
theorem zr116 : Zr hP116 := Zr.set zr115
theorem zr117 : Zr hP117 := Zr.put zr116 (by decide) (by decide)
theorem zr118 : Zr hP118 := Zr.new zr117 (by decide)
theorem zr119 : Zr hP119 := Zr.put (Zr.new zr118 (by decide)) (by decide) (by decide)
theorem zr120 : Zr hP120 := Zr.set zr119
theorem zr121 : Zr hP121 := Zr.put zr120 (by decide) (by decide)
theorem zr122 : Zr hP122 := Zr.new zr121 (by decide)
theorem zr123 : Zr hP123 := Zr.put (Zr.new zr122 (by decide)) (by decide) (by decide)
theorem zr124 : Zr hP124 := Zr.set zr123
theorem zr125 : Zr hP125 := Zr.put zr124 (by decide) (by decide)
theorem zr126 : Zr hP126 := Zr.new zr125 (by decide)
theorem zr127 : Zr hP127 := Zr.put (Zr.new zr126 (by decide)) (by decide) (by decide)
theorem zr128 : Zr hP128 := Zr.set zr127
theorem zr129 : Zr hP129 := Zr.put zr128 (by decide) (by decide)
def w0C : cQ := (28, 0, (99, 100), (105, 106), (94, 95), (false, false), fun _ => false, fun i => 45 + 4 * i)
theorem sh_hi (b : Nat) (hb : 161 ≤ b) : shC w0C b = (0, 0) := by
  cases b with
  | zero => rfl
  | succ a =>
    show shCb w0C a = (0, 0)
    unfold shCb
    split <;> first | rfl | omega
theorem rf_hi (b k : Nat) (h : 161 ≤ b ∨ 16 ≤ k) : rfC w0C b k = 0 := by
  cases b with
  | zero => rfl
  | succ a =>
    show rfCb w0C a k = 0
    unfold rfCb
    split
    · unfold rfC0
      split <;> first | rfl | (split <;> first | rfl | omega)
    · unfold rfC1
      split <;> first | rfl | (split <;> first | rfl | omega)
    · unfold rfC2
      split
      · split <;> first | rfl | omega
      · rw [show Nat.ble 10 k = true from Nat.ble_eq.mpr (by omega)]; rfl
      · split <;> first | rfl | omega
      · rfl
    · unfold rfC3
      split <;> first | rfl | (split <;> first | rfl | omega)
    · unfold rfC4
      split <;> first | rfl | (split <;> first | rfl | omega)
    · unfold rfC5
      split <;> first | rfl | (split <;> first | rfl | omega)
    · unfold rfC6
      split <;> rfl
    · unfold rfC7
      split <;> rfl
    · unfold rfC8
      split <;> rfl
    · rfl
set_option maxRecDepth 100000 in
theorem sh_lo : ∀ b, b < 161 → hP129.2.2.1 b = shC w0C b := by decide +kernel
set_option maxRecDepth 100000 in
theorem rf_lo : ∀ b, b < 161 → ∀ k, k < 16 → hP129.2.1 b k = rfC w0C b k := by decide +kernel
theorem hP_rf : hP129.2.1 = rfC w0C := by
  funext b k
  by_cases h : b < 161 ∧ k < 16
  · exact rf_lo b h.1 k h.2
  · rw [rf_hi b k (by omega), zr129.1 b k (by omega)]
theorem hP_sh : hP129.2.2.1 = shC w0C := by
  funext b
  by_cases h : b < 161
  · exact sh_lo b h
  · rw [sh_hi b (by omega), zr129.2 b (by omega)]
theorem hP_n : hP129.2.2.2 = (106, 3878) := by decide +kernel
theorem hP_eq : hP129 = hC w0C hP129.1 (106, 3878) := by
  show (hP129.1, hP129.2.1, hP129.2.2.1, hP129.2.2.2) = (hP129.1, rfC w0C, shC w0C, (106, 3878))
  rw [hP_rf, hP_sh, hP_n]
/-- a PartyLine is made -/
theorem c11_init {d : Nat} {F : mPost} (q : F (9, 0) (hC w0C hP129.1 (106, 3878))) : WPm gT (d + 3) 119 [(2, ((1 : Nat) : Int))] hP0 F := hPrun1 (by rw [hP_eq]; exact q)
