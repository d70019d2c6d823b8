/-! ===== the class's cells by address (printed by program) ===== -/
/-- what of the class's references changes: Ways' counts and nexts; Rows' counts and nexts; Search's came and queue; which images stand; which longer rows were made; the past's states -/
abbrev cQr : Type := (Nat × Nat) × (Nat × Nat) × (Nat × Nat) × (Bool × Bool) × (Nat → Bool) × (Nat → Nat)
/-- first: Reader's text (28 or 2), LawReader's into (0 or 17) -/
abbrev cQ : Type := Nat × Nat × cQr
def rfC0 (w : cQ) (a k : Nat) : Nat := match a with
  | 0 => (match k with | 0 => 2 | 2 => 3 | 3 => 4 | 4 => 5 | 5 => 9 | 6 => 10 | 7 => 11 | 8 => 12 | 9 => 13 | 10 => 14 | 11 => 15 | 12 => 16 | _ => 0)
  | 2 => (match k with | 0 => 17 | 3 => 26 | 4 => w.1 | _ => 0)
  | 3 => (match k with | 0 => 29 | 1 => 38 | 2 => 42 | 3 => 43 | _ => 0)
  | 4 => (match k with | 0 => 6 | 1 => 7 | 2 => 8 | _ => 0)
  | 8 => (match k with | 0 => 44 | _ => 0)
  | 9 => (match k with | 0 => 85 | 1 => 87 | 2 => 89 | 3 => 91 | _ => 0)
  | 10 => (match k with | 0 => (bif w.2.2.2.2.2.1.1 then 110 else 0) | 1 => (bif w.2.2.2.2.2.1.2 then 123 else 0) | _ => 0)
  | 11 => (match k with | 0 => (bif w.2.2.2.2.2.1.1 then 119 else 0) | 1 => (bif w.2.2.2.2.2.1.2 then 132 else 0) | _ => 0)
  | 12 => (match k with | 0 => 93 | 1 => 4 | 2 => 96 | 3 => 97 | 4 => 98 | 5 => w.2.2.1.1 | 6 => w.2.2.1.2 | _ => 0)
  | 13 => (match k with | 0 => 4 | 1 => 101 | 2 => 102 | 3 => 103 | _ => 0)
  | 14 => (match k with | 0 => 4 | 1 => 104 | 4 => w.2.2.2.1.1 | 5 => w.2.2.2.1.2 | _ => 0)
  | _ => 0
def rfC1 (w : cQ) (a k : Nat) : Nat := match a with
  | 16 => (match k with | 7 => 18 | 8 => 19 | 9 => 20 | 10 => 21 | 11 => 22 | 12 => 23 | 14 => 24 | 15 => 25 | _ => 0)
  | 25 => (match k with | 1 => w.2.1 | 3 => 27 | _ => 0)
  | 28 => (match k with | 7 => 30 | 8 => 31 | 9 => 32 | 10 => 33 | 11 => 34 | 12 => 35 | 14 => 36 | 15 => 37 | _ => 0)
  | _ => 0
def rfC2 (w : cQ) (a k : Nat) : Nat := match a with
  | 37 => (match k with | 0 => 39 | 1 => 40 | 2 => 41 | _ => 0)
  | 43 => bif Nat.ble 10 k then 0 else w.2.2.2.2.2.2.2 k
  | 44 => (match k with | 0 => 46 | 1 => 47 | 2 => 48 | _ => 0)
  | _ => 0
def rfC3 (w : cQ) (a k : Nat) : Nat := match a with
  | 48 => (match k with | 0 => 50 | 1 => 51 | 2 => 52 | _ => 0)
  | 52 => (match k with | 0 => 54 | 1 => 55 | 2 => 56 | _ => 0)
  | 56 => (match k with | 0 => 58 | 1 => 59 | 2 => 60 | _ => 0)
  | 60 => (match k with | 0 => 62 | 1 => 63 | 2 => 64 | _ => 0)
  | _ => 0
def rfC4 (w : cQ) (a k : Nat) : Nat := match a with
  | 64 => (match k with | 0 => 66 | 1 => 67 | 2 => 68 | _ => 0)
  | 68 => (match k with | 0 => 70 | 1 => 71 | 2 => 72 | _ => 0)
  | 72 => (match k with | 0 => 74 | 1 => 75 | 2 => 76 | _ => 0)
  | 76 => (match k with | 0 => 78 | 1 => 79 | 2 => 80 | _ => 0)
  | _ => 0
def rfC5 (w : cQ) (a k : Nat) : Nat := match a with
  | 80 => (match k with | 0 => 82 | 1 => 83 | 2 => 84 | _ => 0)
  | 84 => (match k with | 0 => 86 | _ => 0)
  | 86 => (match k with | 0 => 88 | _ => 0)
  | 88 => (match k with | 0 => 90 | _ => 0)
  | 90 => (match k with | 0 => 92 | _ => 0)
  | 92 => (match k with | 1 => w.2.2.2.2.1.1 | 2 => w.2.2.2.2.1.2 | _ => 0)
  | _ => 0
def rfC6 (w : cQ) (a k : Nat) : Nat := match a with
  | 109 => (bif w.2.2.2.2.2.1.1 then (match k with | 7 => 111 | 8 => 112 | 9 => 113 | 10 => 114 | 11 => 115 | 12 => 116 | 14 => 117 | 15 => 118 | _ => 0) else 0)
  | _ => 0
def rfC7 (w : cQ) (a k : Nat) : Nat := match a with
  | 118 => (bif w.2.2.2.2.2.1.1 then (match k with | 0 => 120 | 1 => 121 | 2 => 122 | _ => 0) else 0)
  | 122 => (bif w.2.2.2.2.2.1.2 then (match k with | 7 => 124 | 8 => 125 | 9 => 126 | 10 => 127 | 11 => 128 | 12 => 129 | 14 => 130 | 15 => 131 | _ => 0) else 0)
  | _ => 0
def rfC8 (w : cQ) (a k : Nat) : Nat := match a with
  | 131 => (bif w.2.2.2.2.2.1.2 then (match k with | 0 => 133 | 1 => 134 | 2 => 135 | _ => 0) else 0)
  | _ => 0
def rfCb (w : cQ) (a k : Nat) : Nat := match a / 16 with
  | 0 => rfC0 w a k
  | 1 => rfC1 w a k
  | 2 => rfC2 w a k
  | 3 => rfC3 w a k
  | 4 => rfC4 w a k
  | 5 => rfC5 w a k
  | 6 => rfC6 w a k
  | 7 => rfC7 w a k
  | 8 => rfC8 w a k
  | _ => 0
def shC0 (w : cQ) (a : Nat) : Nat × Nat := match a with
  | 0 => (21, 13)
  | 1 => (2, 900)
  | 2 => (14, 10)
  | 3 => (20, 5)
  | 4 => (17, 6)
  | 5 => (1, 8)
  | 6 => (1, 8)
  | 7 => (1, 8)
  | 8 => (13, 2)
  | 9 => (48, 4)
  | 10 => (42, 2)
  | 11 => (47, 2)
  | 12 => (19, 7)
  | 13 => (10, 4)
  | 14 => (15, 6)
  | 15 => (1, 8)
  | _ => (0, 0)
def shC1 (w : cQ) (a : Nat) : Nat × Nat := match a with
  | 16 => (12, 16)
  | 17 => (1, 12)
  | 18 => (1, 12)
  | 19 => (1, 8)
  | 20 => (1, 8)
  | 21 => (1, 8)
  | 22 => (1, 900)
  | 23 => (1, 3)
  | 24 => (1, 3)
  | 25 => (11, 10)
  | 26 => (1, 64)
  | 27 => (2, 0)
  | 28 => (12, 16)
  | 29 => (1, 12)
  | 30 => (1, 12)
  | 31 => (1, 8)
  | _ => (0, 0)
def shC2 (w : cQ) (a : Nat) : Nat × Nat := match a with
  | 32 => (1, 8)
  | 33 => (1, 8)
  | 34 => (1, 900)
  | 35 => (1, 3)
  | 36 => (1, 3)
  | 37 => (17, 6)
  | 38 => (1, 8)
  | 39 => (1, 8)
  | 40 => (1, 8)
  | 41 => (1, 5)
  | 42 => (1, 64)
  | 43 => (47, 10)
  | 44 => (17, 6)
  | 45 => (1, 8)
  | 46 => (1, 8)
  | 47 => (1, 8)
  | _ => (0, 0)
def shC3 (w : cQ) (a : Nat) : Nat × Nat := match a with
  | 48 => (17, 6)
  | 49 => (1, 8)
  | 50 => (1, 8)
  | 51 => (1, 8)
  | 52 => (17, 6)
  | 53 => (1, 8)
  | 54 => (1, 8)
  | 55 => (1, 8)
  | 56 => (17, 6)
  | 57 => (1, 8)
  | 58 => (1, 8)
  | 59 => (1, 8)
  | 60 => (17, 6)
  | 61 => (1, 8)
  | 62 => (1, 8)
  | 63 => (1, 8)
  | _ => (0, 0)
def shC4 (w : cQ) (a : Nat) : Nat × Nat := match a with
  | 64 => (17, 6)
  | 65 => (1, 8)
  | 66 => (1, 8)
  | 67 => (1, 8)
  | 68 => (17, 6)
  | 69 => (1, 8)
  | 70 => (1, 8)
  | 71 => (1, 8)
  | 72 => (17, 6)
  | 73 => (1, 8)
  | 74 => (1, 8)
  | 75 => (1, 8)
  | 76 => (17, 6)
  | 77 => (1, 8)
  | 78 => (1, 8)
  | 79 => (1, 8)
  | _ => (0, 0)
def shC5 (w : cQ) (a : Nat) : Nat × Nat := match a with
  | 80 => (17, 6)
  | 81 => (1, 8)
  | 82 => (1, 8)
  | 83 => (1, 8)
  | 84 => (18, 3)
  | 85 => (4, 40)
  | 86 => (18, 3)
  | 87 => (4, 40)
  | 88 => (18, 3)
  | 89 => (4, 40)
  | 90 => (18, 3)
  | 91 => (4, 40)
  | 92 => (16, 5)
  | 93 => (1, 64)
  | 94 => (1, 64)
  | 95 => (1, 12)
  | _ => (0, 0)
def shC6 (w : cQ) (a : Nat) : Nat × Nat := match a with
  | 96 => (1, 12)
  | 97 => (1, 9)
  | 98 => (4, 8)
  | 99 => (4, 8)
  | 100 => (1, 64)
  | 101 => (1, 8)
  | 102 => (1, 8)
  | 103 => (1, 12)
  | 104 => (4, 8)
  | 105 => (4, 8)
  | 109 => bif w.2.2.2.2.2.1.1 then (12, 16) else (0, 0)
  | 110 => bif w.2.2.2.2.2.1.1 then (1, 12) else (0, 0)
  | 111 => bif w.2.2.2.2.2.1.1 then (1, 12) else (0, 0)
  | _ => (0, 0)
def shC7 (w : cQ) (a : Nat) : Nat × Nat := match a with
  | 112 => bif w.2.2.2.2.2.1.1 then (1, 8) else (0, 0)
  | 113 => bif w.2.2.2.2.2.1.1 then (1, 8) else (0, 0)
  | 114 => bif w.2.2.2.2.2.1.1 then (1, 8) else (0, 0)
  | 115 => bif w.2.2.2.2.2.1.1 then (1, 900) else (0, 0)
  | 116 => bif w.2.2.2.2.2.1.1 then (1, 3) else (0, 0)
  | 117 => bif w.2.2.2.2.2.1.1 then (1, 3) else (0, 0)
  | 118 => bif w.2.2.2.2.2.1.1 then (17, 6) else (0, 0)
  | 119 => bif w.2.2.2.2.2.1.1 then (1, 8) else (0, 0)
  | 120 => bif w.2.2.2.2.2.1.1 then (1, 8) else (0, 0)
  | 121 => bif w.2.2.2.2.2.1.1 then (1, 8) else (0, 0)
  | 122 => bif w.2.2.2.2.2.1.2 then (12, 16) else (0, 0)
  | 123 => bif w.2.2.2.2.2.1.2 then (1, 12) else (0, 0)
  | 124 => bif w.2.2.2.2.2.1.2 then (1, 12) else (0, 0)
  | 125 => bif w.2.2.2.2.2.1.2 then (1, 8) else (0, 0)
  | 126 => bif w.2.2.2.2.2.1.2 then (1, 8) else (0, 0)
  | 127 => bif w.2.2.2.2.2.1.2 then (1, 8) else (0, 0)
  | _ => (0, 0)
def shC8 (w : cQ) (a : Nat) : Nat × Nat := match a with
  | 128 => bif w.2.2.2.2.2.1.2 then (1, 900) else (0, 0)
  | 129 => bif w.2.2.2.2.2.1.2 then (1, 3) else (0, 0)
  | 130 => bif w.2.2.2.2.2.1.2 then (1, 3) else (0, 0)
  | 131 => bif w.2.2.2.2.2.1.2 then (17, 6) else (0, 0)
  | 132 => bif w.2.2.2.2.2.1.2 then (1, 8) else (0, 0)
  | 133 => bif w.2.2.2.2.2.1.2 then (1, 8) else (0, 0)
  | 134 => bif w.2.2.2.2.2.1.2 then (1, 8) else (0, 0)
  | 141 => bif w.2.2.2.2.2.2.1 1 then (1, 128) else (0, 0)
  | 142 => bif w.2.2.2.2.2.2.1 1 then (1, 128) else (0, 0)
  | 143 => bif w.2.2.2.2.2.2.1 2 then (1, 256) else (0, 0)
  | _ => (0, 0)
def shC9 (w : cQ) (a : Nat) : Nat × Nat := match a with
  | 144 => bif w.2.2.2.2.2.2.1 2 then (1, 256) else (0, 0)
  | 145 => bif w.2.2.2.2.2.2.1 3 then (1, 512) else (0, 0)
  | 146 => bif w.2.2.2.2.2.2.1 3 then (1, 512) else (0, 0)
  | 147 => bif w.2.2.2.2.2.2.1 4 then (1, 1024) else (0, 0)
  | 148 => bif w.2.2.2.2.2.2.1 4 then (1, 1024) else (0, 0)
  | 149 => bif w.2.2.2.2.2.2.1 5 then (1, 2048) else (0, 0)
  | 150 => bif w.2.2.2.2.2.2.1 5 then (1, 2048) else (0, 0)
  | 151 => bif w.2.2.2.2.2.2.1 6 then (1, 4096) else (0, 0)
  | 152 => bif w.2.2.2.2.2.2.1 6 then (1, 4096) else (0, 0)
  | 153 => bif w.2.2.2.2.2.2.1 7 then (1, 8192) else (0, 0)
  | 154 => bif w.2.2.2.2.2.2.1 7 then (1, 8192) else (0, 0)
  | 155 => bif w.2.2.2.2.2.2.1 8 then (1, 16384) else (0, 0)
  | 156 => bif w.2.2.2.2.2.2.1 8 then (1, 16384) else (0, 0)
  | 157 => bif w.2.2.2.2.2.2.1 9 then (1, 32768) else (0, 0)
  | 158 => bif w.2.2.2.2.2.2.1 9 then (1, 32768) else (0, 0)
  | _ => (0, 0)
def rfC (w : cQ) (a k : Nat) : Nat := match a with
  | 0 => 0
  | b + 1 => rfCb w b k
def shCb (w : cQ) (a : Nat) : Nat × Nat := match a / 16 with
  | 0 => shC0 w a
  | 1 => shC1 w a
  | 2 => shC2 w a
  | 3 => shC3 w a
  | 4 => shC4 w a
  | 5 => shC5 w a
  | 6 => shC6 w a
  | 7 => shC7 w a
  | 8 => shC8 w a
  | 9 => shC9 w a
  | _ => (0, 0)
def shC (w : cQ) (a : Nat) : Nat × Nat := match a with
  | 0 => (0, 0)
  | b + 1 => shCb w b
def hC (w : cQ) (M : Nat → Nat → Int) (n : Nat × Nat) : mH := (M, rfC w, shC w, n)
def FC (Ψ : Int → cQ → (Nat → Nat → Int) → Nat × Nat → Prop) : mPost := fun r h' => ∃ w M n, h' = hC w M n ∧ Ψ r.2 w M n
theorem FCmk {w : cQ} {Ψ : Int → cQ → (Nat → Nat → Int) → Nat × Nat → Prop} {n : Nat × Nat} {t : Nat} {v : Int} {M : Nat → Nat → Int} (q : Ψ v w M n) : FC Ψ (t, v) (hC w M n) := ⟨w, M, n, rfl, q⟩
/-- the k-th method comes to its end, and Ψ holds of its answer and the cells then -/
def CW (d k : Nat) (as : List mV) (w : cQ) (M : Nat → Nat → Int) (n : Nat × Nat) (Ψ : Int → cQ → (Nat → Nat → Int) → Nat × Nat → Prop) : Prop := WPm gT d k as (hC w M n) (FC Ψ)
theorem CW.mono {w : cQ} {d k : Nat} {as : List mV} {M : Nat → Nat → Int} {n : Nat × Nat} {Φ Ψ : Int → cQ → (Nat → Nat → Int) → Nat × Nat → Prop} (h : CW d k as w M n Φ) (hi : ∀ r w N n, Φ r w N n → Ψ r w N n) : CW d k as w M n Ψ :=
  WPm_mono gT d _ _ _ _ _ (fun r h' z => by obtain ⟨w, N, n, e, z⟩ := z; exact ⟨w, N, n, e, hi _ _ _ _ z⟩) h
/-- numbers are copied from row a to row b -/
def cI (M : Nat → Nat → Int) (a sp b dp n : Nat) : Nat → Nat → Int := fun c j => if c = b ∧ dp ≤ j ∧ j < dp + n then M a (sp + (j - dp)) else M c j
