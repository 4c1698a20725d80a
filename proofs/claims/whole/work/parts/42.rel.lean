/-! what a state of both is: a town T (numbers by field and place), words, plans, a sentence, the fight -/
abbrev cellok (T : Nat → Nat → Nat) (a : Nat) : Prop := a % 10 < T 0 0 ∧ a / 10 < T 0 1
def cnt (f : Nat → Nat) : Nat → Nat
  | 0 => 0
  | n + 1 => cnt f n + f n
/-- the last of the first n quarters whose cell is a -/
def own (T : Nat → Nat → Nat) (a : Nat) : Nat → Option Nat
  | 0 => none
  | n + 1 => if T 1 n = a then some n else own T a n
def oI (o : Option Nat) : Int32 := match o with
  | none => -1
  | some n => nI n
def qTWF (T : Nat → Nat → Nat) : Prop :=
  (T 0 0 ≤ 10 ∧ T 0 1 ≤ 10 ∧ T 0 2 ≤ 9 ∧ T 0 3 ≤ 20) ∧
  (∀ q, q < T 0 2 → cellok T (T 1 q) ∧ T 2 q ≤ 400 ∧ 1 ≤ T 3 q ∧ T 3 q ≤ 9 ∧ (T 4 q = 0 ∨ cellok T (T 4 q - 1))) ∧
  (∀ q, T 0 2 ≤ q → T 4 q = 0) ∧
  (∀ c, c < T 0 3 → T 5 c < 240 ∧ cellok T (T 6 c) ∧ T 7 c ≤ 400 ∧ T 8 c ≤ 9) ∧
  (∀ f, 9 ≤ f → f ≤ 11 → (∀ a, T f a ≤ 1 ∧ (T f a = 1 → cellok T a)) ∧ cnt (T f) 100 ≤ 12 ∧ T 13 (f - 9) = cnt (T f) 100) ∧
  (∀ q r, q < T 0 2 → r < T 0 2 → T 1 q = T 1 r → q = r) ∧
  (∀ i, T 12 i ≤ 9)
def bN (b : Bool) : Nat := if b then 1 else 0
def things (T : Nat → Nat → Nat) (a : Nat) : Nat := T 9 a + 2 * T 10 a + 4 * T 11 a + 8 * bN (own T a (T 0 2)).isSome
/-- the class's town at t (its arrays behind it) -/
def qTX (T : Nat → Nat → Nat) (μ : aw_M) (t : Nat) : Prop :=
  (μ.1 t 1 = nI (T 0 0) ∧ μ.1 t 2 = nI (T 0 1) ∧ μ.1 t 3 = nI (T 0 2) ∧ μ.1 t 4 = nI (T 0 3)) ∧
  (∀ q, q < T 0 2 → μ.1 (t + 2) q = nI (T 1 q) ∧ μ.1 (t + 3) q = nI (T 2 q) ∧ μ.1 (t + 4) q = nI (T 3 q)) ∧
  (∀ q, q < 9 → μ.1 (t + 5) q = nI (T 4 q) - 1) ∧
  (∀ c, c < T 0 3 → μ.1 (t + 6) c = nI (T 5 c) ∧ μ.1 (t + 7) c = nI (T 6 c) ∧ μ.1 (t + 8) c = nI (T 7 c) ∧ μ.1 (t + 9) c = nI (T 8 c)) ∧
  (∀ i, i < 3 → μ.1 (t + 10) i = nI (T 13 i)) ∧
  (∀ a, a < 100 → μ.1 (t + 11) a = nI (things T a) ∧ μ.1 (t + 12) a = oI (own T a (T 0 2))) ∧
  (∀ i, i < 4 → μ.1 (t + 13) i = nI (T 12 i))
/-- the reference's -/
def qTM (T : Nat → Nat → Nat) (s : Nat → Int32) : Prop :=
  (s 0 = nI (T 0 0) ∧ s 1 = nI (T 0 1) ∧ s 2 = nI (T 0 2) ∧ s 3 = nI (T 0 3)) ∧
  (∀ i, i < 3 → s (4 + i) = nI (T 13 i)) ∧ (∀ i, i < 4 → s (7 + i) = nI (T 12 i)) ∧
  (∀ q, q < T 0 2 → s (11 + q) = nI (T 1 q) ∧ s (20 + q) = nI (T 2 q) ∧ s (29 + q) = nI (T 3 q)) ∧
  (∀ q, q < 9 → s (38 + q) = nI (T 4 q)) ∧
  (∀ c, c < T 0 3 → s (47 + c) = nI (T 5 c) ∧ s (67 + c) = nI (T 6 c) ∧ s (87 + c) = nI (T 7 c) ∧ s (107 + c) = nI (T 8 c)) ∧
  (∀ a, a < 100 → s (127 + a) = nI (T 9 a) ∧ s (227 + a) = nI (T 10 a) ∧ s (327 + a) = nI (T 11 a))
/-- a word's letters (1 to 26), as either keeps it -/
def e27 (w : List Nat) : Int64 := w.foldl (fun a d => a * 27 + Int64.ofNat d) 0
def e8 (w : List Nat) : Int64 := w.foldl (fun a d => a <<< 8 ||| Int64.ofNat (d + 96)) 0
def wordok (w : List Nat) : Prop := w ≠ [] ∧ w.length ≤ 7 ∧ ∀ d ∈ w, 1 ≤ d ∧ d ≤ 26
def qWR (W : Nat → List Nat) (nq : Nat) (nx nm : Nat → Int64) : Prop := ∀ q, q < nq → wordok (W q) ∧ nx q = e27 (W q) ∧ nm q = e8 (W q)
/-- plans: P 0 q NEAR and 1 (0 without), P 1 q EACH, P 2 q feint, P 3 0 how many -/
def qPWF (P : Nat → Nat → Nat) (nq : Nat) : Prop := ∀ q, P 0 q ≤ 19 ∧ P 1 q ≤ 99 ∧ P 2 q ≤ 1 ∧ (P 0 q = 0 → P 1 q = 0 ∧ P 2 q = 0) ∧ (nq ≤ q → P 0 q = 0)
def qPX (P : Nat → Nat → Nat) (μ : aw_M) (p : Nat) : Prop := μ.1 p 0 = nI (P 3 0) ∧ ∀ q, q < 9 → μ.1 (p + 1) q = nI (P 0 q) - 1 ∧ μ.1 (p + 2) q = (if P 0 q = 0 then -1 else nI (P 1 q)) ∧ μ.1 (p + 3) q = (if P 0 q = 0 then -1 else nI (P 2 q))
def qPM (P : Nat → Nat → Nat) (s : Nat → Int32) : Prop := s 454 = nI (P 3 0) ∧ ∀ q, q < 9 → s (427 + q) = nI (P 0 q) ∧ s (436 + q) = nI (P 1 q) ∧ s (445 + q) = nI (P 2 q)
/-- a sentence as steps: Y 0 0 how many, Y 1 i the class's key (9 or, 10 and, 11 not, 12 feints, 13 joins, 14 to 19), Y 2 i the sign, Y 3 i the number -/
def yh (Y : Nat → Nat → Nat) : Nat → Nat
  | 0 => 0
  | i + 1 => if Y 1 i = 11 then yh Y i else if Y 1 i ≤ 10 then yh Y i - 1 else yh Y i + 1
def qYWF (Y : Nat → Nat → Nat) (nq : Nat) : Prop := Y 0 0 ≤ 39 ∧ (Y 0 0 = 0 ∨ yh Y (Y 0 0) = 1) ∧ ∀ i, i < Y 0 0 → 9 ≤ Y 1 i ∧ Y 1 i ≤ 19 ∧ (Y 1 i = 11 → 1 ≤ yh Y i) ∧ (Y 1 i ≤ 10 → 2 ≤ yh Y i) ∧ yh Y (i + 1) ≤ 20 ∧ (Y 1 i = 13 → Y 3 i < nq) ∧ (14 ≤ Y 1 i → 60 ≤ Y 2 i ∧ Y 2 i ≤ 62 ∧ Y 3 i ≤ 999)
def ycode (k : Nat) : Nat := if k = 9 then 12 else if k = 10 then 11 else if k = 11 then 10 else k - 12
def qYX (Y : Nat → Nat → Nat) (μ : aw_M) (y : Nat) : Prop := μ.1 y 1 = nI (Y 0 0) ∧ ∀ i, i < Y 0 0 → μ.1 (y + 1) i = nI (Y 1 i) ∧ μ.1 (y + 2) i = nI (Y 2 i) ∧ μ.1 (y + 3) i = nI (Y 3 i)
def qYM (Y : Nat → Nat → Nat) (s : Nat → Int32) : Prop := s 974 = nI (Y 0 0) ∧ ∀ i, i < Y 0 0 → s (975 + 3 * i) = nI (ycode (Y 1 i)) ∧ s (976 + 3 * i) = nI (Y 2 i) ∧ s (977 + 3 * i) = nI (Y 3 i)
/-- the fight at f, and the reference's: the same numbers; G 0 boxes, G 1 used (20 q + c), G 2 loads, G 3 pulp, G 4 sand; G 5 0 day, G 5 1 minute, G 5 2 throws of the latest minute, G 6 more -/
def qFWF (T G : Nat → Nat → Nat) : Prop :=
  (G 5 0 ≤ 3 ∧ G 5 1 ≤ 240 ∧ (G 5 1 = 240 ↔ G 5 0 = 3) ∧ G 5 2 ≤ 9) ∧ (∀ q, G 0 q ≤ 400 ∧ G 6 q ≤ 2) ∧ (∀ i, G 1 i ≤ 400) ∧ (∀ c, G 2 c ≤ 400) ∧ (∀ a, G 3 a ≤ 60 * G 5 1 ∧ G 4 a ≤ 1) ∧ (∀ a, a < 100 → G 4 a ≤ bN (decide (cellok T a)))
def qFX (T G : Nat → Nat → Nat) (μ : aw_M) (f : Nat) : Prop :=
  (μ.1 f 3 = nI (G 5 0) ∧ μ.1 f 4 = nI (G 5 1) ∧ μ.1 f 18 = nI (G 5 2)) ∧ (∀ q, q < T 0 2 → μ.1 (f + 2) q = nI (G 0 q) ∧ μ.1 (f + 5) q = nI (G 6 q) ∧ ∀ c, c < T 0 3 → μ.1 (f + 6) (20 * q + c) = nI (G 1 (20 * q + c))) ∧
  (∀ c, c < T 0 3 → μ.1 (f + 7) c = nI (G 2 c)) ∧ (∀ a, a < 100 → μ.1 (f + 9) a = nI (G 3 a) ∧ μ.1 (f + 10) a = nI (G 4 a))
def qFM (T G : Nat → Nat → Nat) (s : Nat → Int32) : Prop :=
  (s 455 = nI (G 5 0) ∧ s 456 = nI (G 5 1) ∧ s 919 = nI (G 5 2)) ∧ (∀ q, q < T 0 2 → s (458 + q) = nI (G 0 q) ∧ s (485 + q) = nI (G 6 q) ∧ ∀ c, c < T 0 3 → s (494 + 20 * q + c) = nI (G 1 (20 * q + c))) ∧
  (∀ c, c < T 0 3 → s (674 + c) = nI (G 2 c)) ∧ (∀ a, a < 100 → s (714 + a) = nI (G 3 a) ∧ s (814 + a) = nI (G 4 a))
/-- what of the fight is only handed on: seed, marks, wounds, hits, counts, what was thrown -/
def qFS (T G : Nat → Nat → Nat) (μ : aw_M) (f : Nat) (s : Nat → Int32) : Prop :=
  (μ.1 f 5 = s 457 ∧ μ.1 f 6 = s 914 ∧ μ.1 f 7 = s 915 ∧ μ.1 (f + 1) 1 = s 916 ∧ μ.1 (f + 1) 0 = s 917 ∧ μ.1 (f + 1) 2 = s 918) ∧
  (∀ q, q < T 0 2 → μ.1 (f + 3) q = s (467 + q) ∧ μ.1 (f + 4) q = s (476 + q)) ∧ (∀ c, c < T 0 3 → μ.1 (f + 8) c = s (694 + c)) ∧
  (∀ k, k < G 5 2 → ∀ j, j < 6 → μ.1 (f + 11) (6 * k + j) = s (920 + 6 * k + j))
def kwl : List (List Nat) := [[19, 17, 21, 1, 18, 5], [17, 21, 1, 18, 20, 5, 18], [3, 1, 18, 20], [3, 1, 16], [4, 18, 1, 9, 14], [10, 21, 4, 7, 5], [19, 16, 15, 20], [12, 1, 23], [6, 5, 9, 14, 20], [15, 18], [1, 14, 4], [14, 15, 20], [6, 5, 9, 14, 20, 19], [10, 15, 9, 14, 19], [2, 15, 24, 5, 19], [13, 1, 18, 11, 19], [23, 15, 21, 14, 4, 19], [1, 9, 13], [19, 5, 5, 19], [16, 12, 1, 3, 5]]
def kw (i : Nat) : List Nat := kwl.getD i []
/-- a scene of the class's at b, and the reference's numbers S, names N -/
def qSC (T : Nat → Nat → Nat) (W : Nat → List Nat) (P Y G : Nat → Nat → Nat) (μ : aw_M) (b : Nat) (S : Nat → Int32) (N : Nat → Int64) : Prop :=
  (qTWF T ∧ qTX T μ (b + 1) ∧ qTM T S) ∧ (qWR W (T 0 2) (μ.2 (b + 2)) N ∧ (∀ q r, q < T 0 2 → r < T 0 2 → W q = W r → q = r) ∧ ∀ q, q < T 0 2 → ∀ i, i < 20 → W q ≠ kw i) ∧
  (qPWF P (T 0 2) ∧ qPX P μ (b + 15) ∧ qPM P S) ∧ (qYWF Y (T 0 2) ∧ qYX Y μ (b + 19) ∧ qYM Y S) ∧ (qFWF T G ∧ qFX T G μ (b + 35) ∧ qFM T G S ∧ qFS T G μ (b + 35) S)
/-! what follows from a town -/
def adiff (a b : Nat) : Nat := (a - b) + (b - a)
def dst (a b : Nat) : Nat := adiff (a % 10) (b % 10) + adiff (a / 10) (b / 10)
def pl (T : Nat → Nat → Nat) (p : Nat) : Nat := if p < 9 then T 1 p else if T 4 (p - 9) = 0 then T 1 (p - 9) else T 4 (p - 9) - 1
def jsee (T : Nat → Nat → Nat) (a : Nat) : Nat := cnt (fun c => if T 11 c = 1 ∧ dst a c ≤ 4 then 1 else 0) 100
def side (T : Nat → Nat → Nat) (a k : Nat) : Option Nat :=
  if k = 0 then (if cellok T a then some a else none)
  else if k = 1 then (if a % 10 + 1 < T 0 0 ∧ a / 10 < T 0 1 then some (a + 1) else none)
  else if k = 2 then (if 1 ≤ a % 10 ∧ a % 10 - 1 < T 0 0 ∧ a / 10 < T 0 1 then some (a - 1) else none)
  else if k = 3 then (if a % 10 < T 0 0 ∧ a / 10 + 1 < T 0 1 then some (a + 10) else none)
  else (if a % 10 < T 0 0 ∧ 1 ≤ a / 10 ∧ a / 10 - 1 < T 0 1 then some (a - 10) else none)
/-- how many of the cell and its neighbours have it -/
def nbr (T : Nat → Nat → Nat) (f a : Nat) : Nat := cnt (fun k => match side T a k with | none => 0 | some b => T f b) 5
/-- the first of n with least d among those with p -/
def am (d : Nat → Nat) (p : Nat → Bool) : Nat → Option Nat
  | 0 => none
  | n + 1 => match am d p n with
    | none => if p n = true then some n else none
    | some b => if p n = true ∧ d n < d b then some n else some b
def prey (T : Nat → Nat → Nat) (c : Nat) : Option Nat := am (fun q => dst (T 1 q) (T 6 c)) (fun q => decide (dst (T 1 q) (T 6 c) ≤ 6)) (T 0 2)
def drn (T : Nat → Nat → Nat) (a : Nat) : Nat := if cellok T a then nbr T 10 a else 0
def drl (T : Nat → Nat → Nat) : List Nat := (List.range 100).filter (fun a => decide (0 < drn T a))
def ther (T : Nat → Nat → Nat) (c m : Nat) : Bool := decide (T 5 c ≤ m) && decide (m < T 5 c + 4) && decide (m < 240)
def vis (T : Nat → Nat → Nat) (m : Nat) : List Nat := (List.range (T 0 3)).filter (fun c => ther T c m)
def cntv (T : Nat → Nat → Nat) (m : Nat) : Nat := cnt (fun k => (vis T k).length) m
def nbz (T : Nat → Nat → Nat) (m : Nat) : Nat := cnt (fun k => bN (!(vis T k).isEmpty)) m
def qGX (T : Nat → Nat → Nat) (μ : aw_M) (g : Nat) : Prop :=
  (∀ p, p < 18 → p % 9 < T 0 2 → (∀ c, c < T 0 3 → μ.1 (g + 1) (20 * p + c) = nI (dst (pl T p) (T 6 c))) ∧ μ.1 (g + 2) p = nI (jsee T (pl T p))) ∧
  (∀ c, c < T 0 3 → μ.1 (g + 3) c = nI (bN (decide (0 < nbr T 9 (T 6 c)))) ∧ μ.1 (g + 4) c = oI (prey T c)) ∧
  (μ.1 g 4 = nI (drl T).length ∧ (∀ i, i < (drl T).length → μ.1 (g + 5) i = nI ((drl T).getD i 0)) ∧ ∀ a, a < 100 → μ.1 (g + 6) a = nI (drn T a)) ∧
  (μ.1 g 7 = nI (nbz T 240) ∧ ∀ m, m < 240 → (vis T m = [] → μ.1 (g + 7) m = -1) ∧ (vis T m ≠ [] → μ.1 (g + 7) m = nI (nbz T m) ∧ μ.1 (g + 8) (nbz T m) = nI m ∧ μ.1 (g + 9) (nbz T m) = nI (cntv T m) ∧ μ.1 (g + 9) (nbz T m + 1) = nI (cntv T (m + 1)) ∧ ∀ j, j < (vis T m).length → μ.1 (g + 10) (cntv T m + j) = nI ((vis T m).getD j 0)))
/-! the rest of a state -/
def qTape (n : Nat) (B : Nat → Nat) (μ : aw_M) : Prop := n ≤ 940 ∧ μ.1 1 1 = nI n ∧ μ.1 203 2 = nI n ∧ ∀ i, i < n → B i < 256 ∧ μ.1 2 i = nI (B i) ∧ μ.1 204 i = (nI (B i)).toInt8.toInt32
def qKept (μ : aw_M) (k b : Nat) : Prop := ∃ h : Nat, h ≤ 1 ∧ μ.1 52 k = nI h ∧ μ.1 229 k = nI h ∧ (h = 1 → ∃ T W P Y G, qSC T W P Y G μ b (fun i => μ.1 227 (1155 * k + i)) (fun i => μ.2 228 (9 * k + i)))
def qPz (μ : aw_M) : Prop :=
  (∃ h : Nat, h ≤ 1 ∧ μ.1 203 26 = nI h ∧ ∀ d, d < 3 → μ.1 98 d = if h = 1 then μ.1 212 d else -1) ∧
  (∃ n : Nat, n ≤ 10000 ∧ μ.1 97 2 = nI n ∧ μ.1 203 31 = nI (min n 100) ∧ ∀ i, i < min n 100 → μ.1 100 i = μ.1 217 i) ∧
  (∃ n : Nat, n ≤ 8 ∧ μ.1 101 0 = nI n ∧ μ.1 203 35 = nI n ∧ ∀ i, i < n → μ.1 102 i = μ.1 219 i) ∧
  (∃ n : Nat, n ≤ 9 ∧ μ.1 101 8 = nI n ∧ μ.1 203 38 = nI n ∧ ∀ i, i < n → μ.1 222 i = (μ.2 101 9 >>> (Int64.ofNat (7 * (n - 1 - i)))).toInt32 &&& 127) ∧
  (∃ n : Nat, n ≤ 6 ∧ μ.1 88 10 = nI n ∧ μ.1 203 41 = nI n ∧ ∀ i j w, i < n → j < n → w < 2 → μ.1 96 (12 * i + 2 * j + w) = μ.1 223 (12 * i + 2 * j + w))
def qK (μ : aw_M) : Prop := (∀ i, i < 20 → μ.2 3 i = e27 (kw i) ∧ μ.2 209 i = e8 (kw i)) ∧ μ.1 99 0 = 0
def R (μ : aw_M) : Prop :=
  (∃ T W P Y G, qSC T W P Y G μ 4 (μ.1 205) (μ.2 208) ∧ qGX T μ 28) ∧ (∃ n B, qTape n B μ) ∧ μ.1 0 11 = μ.1 203 15 ∧ qKept μ 0 109 ∧ qKept μ 1 156 ∧ qPz μ ∧ qK μ
/-- what a state is made of: all else may change -/
def keepA (a : Nat) : Bool := decide (a = 2 ∨ a = 3 ∨ (5 ≤ a ∧ a ≤ 26) ∨ (28 ≤ a ∧ a ≤ 50) ∨ a = 52 ∨ a = 96 ∨ a = 98 ∨ a = 99 ∨ a = 100 ∨ a = 102 ∨ (109 ≤ a ∧ a ≤ 202) ∨ a = 204 ∨ a = 205 ∨ a = 209 ∨ a = 212 ∨ a = 217 ∨ a = 219 ∨ a = 222 ∨ a = 223 ∨ (227 ≤ a ∧ a ≤ 229))
def keepF (a k : Nat) : Bool := keepA a || decide ((a = 0 ∧ k = 11) ∨ (a = 1 ∧ k = 1) ∨ (a = 88 ∧ k = 10) ∨ (a = 97 ∧ k = 2) ∨ (a = 101 ∧ (k = 0 ∨ k = 8 ∨ k = 9)) ∨ (a = 203 ∧ (k = 2 ∨ k = 15 ∨ k = 26 ∨ k = 31 ∨ k = 35 ∨ k = 38 ∨ k = 41)) ∨ (a = 208 ∧ k < 9))
def Ag (μ μ' : aw_M) : Prop := ∀ a k, keepF a k = true → μ'.1 a k = μ.1 a k ∧ μ'.2 a k = μ.2 a k
theorem Ag.rf (μ : aw_M) : Ag μ μ := fun _ _ _ => ⟨rfl, rfl⟩
theorem Ag.tr {μ μ1 μ2 : aw_M} (h : Ag μ μ1) (h2 : Ag μ1 μ2) : Ag μ μ2 := fun a k q => ⟨(h2 a k q).1.trans (h a k q).1, (h2 a k q).2.trans (h a k q).2⟩
theorem Ag.wI {μ μ1 : aw_M} {a k : Nat} {v : Int32} (h : Ag μ μ1) (hk : keepF a k = false) : Ag μ (aw_wI μ1 a k v) := fun b j q => by
  refine ⟨?_, (h b j q).2⟩
  rw [← (h b j q).1]
  show va_up μ1.1 a (upd (μ1.1 a) k v) b j = μ1.1 b j
  unfold va_up upd
  split
  · rename_i e
    subst e
    show (if j = k then v else μ1.1 b j) = μ1.1 b j
    split
    · rename_i e2
      subst e2
      rw [hk] at q
      cases q
    · rfl
  · rfl
theorem Ag.wL {μ μ1 : aw_M} {a k : Nat} {v : Int64} (h : Ag μ μ1) (hk : keepF a k = false) : Ag μ (aw_wL μ1 a k v) := fun b j q => by
  refine ⟨(h b j q).1, ?_⟩
  rw [← (h b j q).2]
  show va_up μ1.2 a (vp_updL (μ1.2 a) k v) b j = μ1.2 b j
  unfold va_up vp_updL
  split
  · rename_i e
    subst e
    show (if j = k then v else μ1.2 b j) = μ1.2 b j
    split
    · rename_i e2
      subst e2
      rw [hk] at q
      cases q
    · rfl
  · rfl
theorem qSC_ag {T : Nat → Nat → Nat} {W : Nat → List Nat} {P Y G : Nat → Nat → Nat} {μ μ' : aw_M} {b : Nat} {S : Nat → Int32} {N : Nat → Int64} (h1 : ∀ a, b + 1 ≤ a → a ≤ b + 46 → a ≠ b + 23 → (a < b + 24 ∨ b + 34 < a) → μ'.1 a = μ.1 a) (h2 : μ'.2 (b + 2) = μ.2 (b + 2)) (h : qSC T W P Y G μ b S N) : qSC T W P Y G μ' b S N := by
  unfold qSC qTX qPX qYX qFX qFS at h ⊢
  simp (disch := omega) only [h1, h2]
  exact h
theorem qGX_ag {T : Nat → Nat → Nat} {μ μ' : aw_M} {g : Nat} (h1 : ∀ a, g ≤ a → a ≤ g + 10 → μ'.1 a = μ.1 a) (h : qGX T μ g) : qGX T μ' g := by
  unfold qGX at h ⊢
  simp (disch := omega) only [h1]
  exact h
theorem keepA_F {a k : Nat} (h : keepA a = true) : keepF a k = true := by unfold keepF; rw [h]; rfl
theorem Ag.a {μ μ' : aw_M} (h : Ag μ μ') {a : Nat} (ha : keepA a = true) : μ'.1 a = μ.1 a := funext fun k => (h a k (keepA_F ha)).1
theorem Ag.b {μ μ' : aw_M} (h : Ag μ μ') {a : Nat} (ha : keepA a = true) : μ'.2 a = μ.2 a := funext fun k => (h a k (keepA_F ha)).2
theorem keepA_sc (a : Nat) (h1 : 5 ≤ a) (h2 : a ≤ 50) (h3 : a ≠ 27) : keepA a = true := by unfold keepA; exact decide_eq_true (by omega)
theorem keepA_k (a : Nat) (h1 : 109 ≤ a) (h2 : a ≤ 202) : keepA a = true := by unfold keepA; exact decide_eq_true (by omega)
theorem R_ag {μ μ' : aw_M} (h : Ag μ μ') (hR : R μ) : R μ' := by
  obtain ⟨⟨T, W, P, Y, G, hS, hG⟩, ⟨n, B, hT⟩, hf, hk0, hk1, hp, hK⟩ := hR
  refine ⟨⟨T, W, P, Y, G, ?_, ?_⟩, ⟨n, B, ?_⟩, ?_, ?_, ?_, ?_, ?_⟩
  · rw [h.a (a := 205) rfl]
    have hS2 := qSC_ag (b := 4) (μ' := μ') (fun a h1 h2 h3 h4 => h.a (keepA_sc a h1 h2 h3)) (h.b (a := 6) rfl) hS
    refine ⟨hS2.1, ⟨?_, hS2.2.1.2⟩, hS2.2.2⟩
    intro q hq
    obtain ⟨g1, g2, g3⟩ := hS2.2.1.1 q hq
    refine ⟨g1, g2, ?_⟩
    have hq9 : q < 9 := Nat.lt_of_lt_of_le hq hS2.1.1.1.2.2.1
    rw [(h 208 q (by unfold keepF; simp [hq9])).2]
    exact g3
  · exact qGX_ag (fun a h1 h2 => h.a (keepA_sc a (by omega) (by omega) (by omega))) hG
  · obtain ⟨g1, g2, g3, g4⟩ := hT
    refine ⟨g1, ?_, ?_, ?_⟩
    · rw [(h 1 1 rfl).1]; exact g2
    · rw [(h 203 2 rfl).1]; exact g3
    · rw [h.a (a := 2) rfl, h.a (a := 204) rfl]; exact g4
  · rw [(h 0 11 rfl).1, (h 203 15 rfl).1]; exact hf
  · obtain ⟨x, g1, g2, g3, g4⟩ := hk0
    refine ⟨x, g1, ?_, ?_, fun hx => ?_⟩
    · rw [h.a (a := 52) rfl]; exact g2
    · rw [h.a (a := 229) rfl]; exact g3
    · obtain ⟨T, W, P, Y, G, g5⟩ := g4 hx
      rw [h.a (a := 227) rfl, h.b (a := 228) rfl]
      exact ⟨T, W, P, Y, G, qSC_ag (b := 109) (fun a h1 h2 h3 h4 => h.a (keepA_k a (by omega) (by omega))) (h.b (a := 111) rfl) g5⟩
  · obtain ⟨x, g1, g2, g3, g4⟩ := hk1
    refine ⟨x, g1, ?_, ?_, fun hx => ?_⟩
    · rw [h.a (a := 52) rfl]; exact g2
    · rw [h.a (a := 229) rfl]; exact g3
    · obtain ⟨T, W, P, Y, G, g5⟩ := g4 hx
      rw [h.a (a := 227) rfl, h.b (a := 228) rfl]
      exact ⟨T, W, P, Y, G, qSC_ag (b := 156) (fun a h1 h2 h3 h4 => h.a (keepA_k a (by omega) (by omega))) (h.b (a := 158) rfl) g5⟩
  · unfold qPz at hp ⊢
    simp only [(h 203 26 rfl).1, h.a (a := 98) rfl, h.a (a := 212) rfl, (h 97 2 rfl).1, (h 203 31 rfl).1, h.a (a := 100) rfl, h.a (a := 217) rfl, (h 101 0 rfl).1, (h 203 35 rfl).1, h.a (a := 102) rfl, h.a (a := 219) rfl, (h 101 8 rfl).1, (h 203 38 rfl).1, h.a (a := 222) rfl, (h 101 9 rfl).2, (h 88 10 rfl).1, (h 203 41 rfl).1, h.a (a := 96) rfl, h.a (a := 223) rfl]
    exact hp
  · unfold qK at hK ⊢
    simp only [h.b (a := 3) rfl, h.b (a := 209) rfl, h.a (a := 99) rfl]
    exact hK
