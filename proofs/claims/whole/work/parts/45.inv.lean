def idxL (j : Nat) : Prop := j = 0 ∨ j = 1 ∨ j = 10 ∨ (20 ≤ j ∧ j < 50) ∨ (1190 ≤ j ∧ j < 1310) ∨ (4410 ≤ j ∧ j < 6700)
def idxC (j : Nat) : Prop := j = 2 ∨ j = 12 ∨ j = 13 ∨ (1310 ≤ j ∧ j < 4410)
def idxP (j : Nat) : Prop := (3 ≤ j ∧ j ≤ 5) ∨ j = 11 ∨ (50 ≤ j ∧ j < 75) ∨ (90 ≤ j ∧ j < 230)
def idxN (j : Nat) : Prop := j = 6 ∨ (230 ≤ j ∧ j < 460)
def idxH (j : Nat) : Prop := j = 7 ∨ (75 ≤ j ∧ j < 90) ∨ (460 ≤ j ∧ j < 560)
def idxB (j : Nat) : Prop := j = 8 ∨ j = 9 ∨ (560 ≤ j ∧ j < 1190)
/-- v is s but for places of a kind -/
def outS (K : Nat → Prop) (s v : Nat → Int32) : Prop := ∀ j, ¬ K j → v j = s j
def inS (K : Nat → Prop) (s v : Nat → Int32) : Prop := ∀ j, K j → v j = s j
def sum4 (b : Nat → Nat) : Nat := b 0 + b 1 + b 2 + b 3
def sum12 (a : Nat → Nat) : Nat := a 0 + a 1 + a 2 + a 3 + a 4 + a 5 + a 6 + a 7 + a 8 + a 9 + a 10 + a 11
def ILand (gr : Nat → Int32) (today : Int32) (tape : Nat → Int32) (bytes : Int32) (texts : Nat → Option Nat) (tc : Int32) (T_L : List Nat) (T_number T_tongue T_day : Nat → Int32) (T_code : Nat → Option Nat) (C_L : List Nat) (C_len : Nat → Nat) (C_row : Nat → Nat → Int32) (s : Nat → Int32) : Prop :=
  (∀ i, i < 30 → gr i = s (20 + i) ∧ isN (s (20 + i)) 5) ∧ (today = s 0 ∧ isN (s 0) 999) ∧
  (bytes = s 10 ∧ isN (s 10) 120) ∧ (∀ i, i < 120 → fits .byte (.int (tape i)) = true) ∧ (∀ b, s 10 = nI b → b ≤ 120 → ∀ i, i < b → tape i &&& nI 255 = s (1190 + i)) ∧
  (∀ i, i < 15 → ∀ y, texts i = some y → y ∈ T_L) ∧
  ∃ t, t ≤ 15 ∧ tc = nI t ∧ s 1 = nI t ∧ ∀ i, i < t → ∃ a c, texts i = some a ∧ a ∈ T_L ∧ T_number a = nI i ∧ T_tongue a = s (4410 + i) ∧ isN (s (4410 + i)) 2 ∧ T_day a = s (4430 + i) ∧ isN (s (4430 + i)) 999 ∧ T_code a = some c ∧ c ∈ C_L ∧ TextOK s i (C_len c) (C_row c)
def bitL (x : Int64) (i : Nat) : Bool := x.toBitVec.getLsbD i
def ICm (today : Int32) (rights : Nat → Option Nat) (count : Int32) (leans : Nat → Int64) (heardOn : Nat → Int32) (overruled : Int64) (R_L : List Nat) (R_kind R_number R_side R_n R_cell R_day R_ruling R_share : Nat → Int32) (s : Nat → Int32) : Prop :=
  (∀ i, i < 50 → ∀ y, rights i = some y → y ∈ R_L) ∧
  ∃ (r : Nat) (ki : Nat → Nat), r ≤ 50 ∧ count = nI r ∧ s 2 = nI r ∧
    (∀ i, i < r → ∃ a, rights i = some a ∧ a ∈ R_L ∧ 1 ≤ ki i ∧ ki i ≤ 7 ∧ s (1310 + i) = nI (ki i) ∧ R_kind a = nI (ki i) ∧ R_number a = nI i ∧ R_side a = s (1360 + i) ∧ isN (s (1360 + i)) 2 ∧ R_n a = s (1510 + i) ∧
      (∃ d t, s (1660 + i) = nI d ∧ today = nI t ∧ d ≤ t ∧ t ≤ 999) ∧ (∀ j, j < i → ∃ d e, s (1660 + j) = nI d ∧ s (1660 + i) = nI e ∧ d ≤ e ∧ e ≤ 999) ∧ isN (s (1660 + i)) 999 ∧
      (ki i = 6 → R_day a = s (1660 + i) ∧ (∃ p m, p < 30 ∧ m < 5 ∧ s (1410 + i) = nI p ∧ s (1460 + i) = nI m ∧ R_cell a = nI (p * 5 + m)) ∧ (s (1510 + i) = nI 10 ∧ s (1560 + i) = nI 1 ∨ s (1510 + i) = nI 20 ∧ s (1560 + i) = nI 0) ∧ s (1860 + i) = nI (if bitL overruled i then 1 else 0)) ∧
      (ki i = 7 → (∃ q, q < i ∧ ki q = 6 ∧ s (1610 + i) = nI q ∧ R_ruling a = nI q) ∧ R_share a = s (1710 + i) ∧ isN (s (1710 + i)) 100 ∧ heardOn i = s (1810 + i) ∧ (s (1760 + i) = nI 0 ∧ s (1810 + i) = -5 ∧ s (1860 + i) = nI 0 ∨ s (1760 + i) = nI 1 ∧ isN (s (1810 + i)) 999 ∧ s (1860 + i) = if s (1710 + i) ≤ nI 50 then nI 0 else nI 1))) ∧
    (∀ i, i < r → ∀ k, k < 50 → s (1910 + 50 * i + k) = nI (if bitL (leans i) k then 1 else 0)) ∧
    (∀ i, i < r → ∀ k, bitL (leans i) k = true → k < r ∧ ki k = 6 ∧ ki i = 6 ∧ k ≠ i) ∧
    (∀ i, bitL overruled i = true → i < r ∧ ki i = 6)
def ICourt (today : Int32) (rights : Nat → Option Nat) (count : Int32) (leans : Nat → Int64) (heardOn : Nat → Int32) (overruled : Int64) (termDays step : Int32) (R_L : List Nat) (R_kind R_number R_side R_n R_cell R_day R_ruling R_share : Nat → Int32) (s : Nat → Int32) : Prop :=
  (termDays = s 12 ∧ isN (s 12) 99) ∧ (step = s 13 ∧ ∃ k, 1 ≤ k ∧ k ≤ 20 ∧ s 13 = nI k) ∧ ICm today rights count leans heardOn overruled R_L R_kind R_number R_side R_n R_cell R_day R_ruling R_share s
def idxR (j : Nat) : Prop := j = 2 ∨ (1310 ≤ j ∧ j < 4410)
def IP1 (goods ab pl : Nat → Int32) (sc chest : Int32) (s : Nat → Int32) : Prop :=
  ∃ (c : Nat) (a b : Nat → Nat) (ch : Nat), c ≤ 12 ∧ sc = nI c ∧ s 3 = nI c ∧ (∀ i, i < 12 → goods i = s (90 + i) ∧ ab i = s (102 + i) ∧ pl i = s (114 + i)) ∧
    (∀ i, i < c → isN (s (90 + i)) 3 ∧ (s (114 + i) = -2 ∨ s (114 + i) = -3 ∨ s (114 + i) = -4 ∨ isN (s (114 + i)) 29)) ∧
    (∀ i, i < 12 → s (102 + i) = nI (a i)) ∧ (∀ g, g < 4 → s (50 + g) = nI (b g)) ∧ chest = nI ch ∧ s 4 = nI ch ∧ sum12 a + sum4 b ≤ 999 * c ∧ ch + 99 * (sum12 a + sum4 b) ≤ 99 * 999 * c
def IP2 (bond sold passed tar : Nat → Int32) (s : Nat → Int32) : Prop :=
  ∀ g, g < 4 → bond g = s (50 + g) ∧ sold g = s (54 + g) ∧ passed g = s (58 + g) ∧ tar g = s (62 + g) ∧ isN (s (62 + g)) 99
def IP3 (parts pur quo : Nat → Int32) (s : Nat → Int32) : Prop :=
  ∀ j, j < 3 → parts j = s (66 + j) ∧ isN (s (66 + j)) 99 ∧ pur j = s (69 + j) ∧ quo j = s (72 + j) ∧ isN (s (72 + j)) 9999
def IP4 (fs ow : Nat → Int32) (fc : Int32) (uf ut : Nat → Int32) (uc : Int32) (s : Nat → Int32) : Prop :=
  ∃ f u, f ≤ 10 ∧ fc = nI f ∧ s 5 = nI f ∧ u ≤ 40 ∧ uc = nI u ∧ s 11 = nI u ∧
    (∀ i, i < 10 → fs i = s (130 + i) ∧ ow i = s (140 + i)) ∧ (∀ i, i < f → isN (s (130 + i)) 2 ∧ (s (140 + i) = -1 ∨ ∃ j, j < i ∧ s (140 + i) = nI j)) ∧
    (∀ i, i < 40 → uf i = s (150 + i) ∧ ut i = s (190 + i)) ∧ (∀ i, i < u → (∃ j, j < f ∧ s (150 + i) = nI j) ∧ isN (s (190 + i)) 999)
def IPort (goods ab pl : Nat → Int32) (sc : Int32) (bond sold passed tar parts pur : Nat → Int32) (chest : Int32) (fs ow : Nat → Int32) (fc : Int32) (uf ut : Nat → Int32) (uc : Int32) (quo : Nat → Int32) (s : Nat → Int32) : Prop :=
  IP1 goods ab pl sc chest s ∧ IP2 bond sold passed tar s ∧ IP3 parts pur quo s ∧ IP4 fs ow fc uf ut uc s
def idx1 (j : Nat) : Prop := j = 3 ∨ j = 4 ∨ (50 ≤ j ∧ j < 54) ∨ (90 ≤ j ∧ j < 130)
def idx2 (j : Nat) : Prop := 50 ≤ j ∧ j < 66
def idx3 (j : Nat) : Prop := 66 ≤ j ∧ j < 75
def idx4 (j : Nat) : Prop := j = 5 ∨ j = 11 ∨ (130 ≤ j ∧ j < 230)
def cnt24 (si : Nat → Int32) (p : Nat) : Nat := ((List.range 24).filter (fun h => decide (¬ si (p * 24 + h) < 0))).length
def INight (ds fh lh : Nat → Int32) (dc : Int32) (si : Nat → Int32) (s : Nat → Int32) : Prop :=
  (∃ d, d ≤ 6 ∧ dc = nI d ∧ s 6 = nI d ∧ (∀ i, i < 6 → ds i = s (230 + i) ∧ fh i = s (236 + i) ∧ lh i = s (242 + i)) ∧ ∀ i, i < d → ∃ p f l, p < 30 ∧ f ≤ l ∧ l < 24 ∧ s (230 + i) = nI p ∧ s (236 + i) = nI f ∧ s (242 + i) = nI l) ∧
  ∀ p, p < 8 → ∃ (c : Nat) (ho sp : Nat → Nat), c ≤ 12 ∧ s (250 + p) = nI c ∧ cnt24 si p = c ∧
    (∀ k, k < c → ho k < 24 ∧ sp k < 30 ∧ s (260 + 12 * p + k) = nI (sp k) ∧ s (356 + 12 * p + k) = nI (ho k) ∧ si (p * 24 + ho k) = nI (sp k)) ∧
    (∀ h, h < 24 → si (p * 24 + h) = -1 ∨ ∃ k, k < c ∧ ho k = h)
def IHall (vo sd ss sn : Nat → Int32) (sc : Int32) (s : Nat → Int32) : Prop :=
  (∀ i, i < 6 → vo i = s (75 + i) ∧ isN (s (75 + i)) 99999) ∧
  ∃ c, c ≤ 20 ∧ sc = nI c ∧ s 7 = nI c ∧ ∀ i, i < c → sd i = s (460 + i) ∧ isN (s (460 + i)) 999 ∧
    ∀ t, t < 256 → ((((nI t &&& ss i) ||| ((nI t ^^^ (-1)) &&& sn i)) = 0) ↔ f_X12_isTrue s (nI i) (nI t) = 0)
def IBench (cells : Nat → Int32) (fl fn : Nat → Int64) (qc : Int32) (wa : Nat → Int32) (wc : Int32) (s : Nat → Int32) : Prop :=
  (∃ q, q ≤ 6 ∧ qc = nI q ∧ s 8 = nI q ∧ ∀ i, i < q → (∃ p m, p < 30 ∧ m < 5 ∧ s (560 + i) = nI p ∧ s (566 + i) = nI m ∧ cells i = nI (p * 5 + m)) ∧ ∀ r, r < 50 → s (572 + 50 * i + r) = nI (if bitL (fl i) r then 1 else 0) ∧ s (872 + 50 * i + r) = nI (if bitL (fn i) r then 1 else 0)) ∧
  ∃ w, w ≤ 10 ∧ wc = nI w ∧ s 9 = nI w ∧ ∀ i, i < w → wa i = s (1172 + i) ∧ isN (s (1172 + i)) 10799
def gS (s : Nat → Int32) : Nat → Int32 := fun i => s (20 + i % 30)
/-- what the reference remembers of texts: as it would find it now -/
def ICacheT (n : Nat) (letBy letStamp : Nat → Int32) (stamp : Int32) (s : Nat → Int32) : Prop :=
  ∃ z, z ≤ n + 1 ∧ 1 ≤ z ∧ stamp = nI z ∧ ∀ t, t < 16 → ∃ y, y ≤ z ∧ letStamp t = nI y ∧ (y = z → ∃ (c : Nat) (ll : List (Bool × Nat)), c = ll.length ∧ c ≤ 8 ∧ s (4470 + t) = nI c ∧ (∃ L, L ≤ 120 ∧ s (4450 + t) = nI L) ∧
    (∀ k b p, ll[k]? = some (b, p) → s (4490 + (8 * t + k)) = nI (if b then 1 else 0) ∧ s (4620 + (8 * t + k)) = nI p ∧ p ≤ 120 ∧ (pSome (pkS s t) p).1 = true) ∧
    ∀ a, a < 10800 → letBy (10800 * t + a) = nI (if ll.foldl (fun x q => if (pSome (pkS s t) q.2).2.2.2 (gS s) a then q.1 else x) false then 1 else 0))
/-- what a person could have painted: the ways through the hours, as sets of spots for each set of doors -/
def besideN (a b : Nat) : Bool := decide ((a % 6 + 1 = b % 6 ∧ a / 6 = b / 6) ∨ (b % 6 + 1 = a % 6 ∧ a / 6 = b / 6) ∨ (a % 6 = b % 6 ∧ a / 6 + 1 = b / 6) ∨ (a % 6 = b % 6 ∧ b / 6 + 1 = a / 6))
def canN (s : Nat → Int32) (p h a : Nat) : Bool := decide (a < 30) && decide (s (20 + a) ≠ nI 5) && (List.range 12).all (fun k => !(decide (nI k < s (250 + p)) && decide (s (356 + 12 * p + k) = nI h) && decide (s (260 + 12 * p + k) ≠ nI a)))
def nxN (s : Nat → Int32) (p h : Nat) (M : Nat → Nat → Bool) (a t : Nat) : Bool := canN s p h a && (M a t || (decide (0 < h) && (List.range 30).any (fun b => besideN a b && M b t)))
def stepN (s : Nat → Int32) (p h : Nat) (M : Nat → Nat → Bool) (a t : Nat) : Bool := nxN s p h M a t || (List.range 6).any (fun d => decide (nI d < s 6) && t.testBit d && decide (s (230 + d) = nI a) && decide (s (236 + d) ≤ nI h) && decide (nI h ≤ s (242 + d)) && nxN s p h M a (t - 2 ^ d))
def mayN (s : Nat → Int32) (p : Nat) : Nat → Nat → Nat → Bool
  | 0 => fun _ t => decide (t = 0)
  | h + 1 => stepN s p h (mayN s p h)
def couldN (s : Nat → Int32) (p t : Nat) : Bool := (List.range 30).any (fun a => mayN s p 24 a t)
def ICacheN (n : Nat) (could couldNight : Nat → Int32) (night : Int32) (s : Nat → Int32) : Prop :=
  ∃ z, z ≤ n + 1 ∧ 1 ≤ z ∧ night = nI z ∧ ∀ p, p < 8 → ∃ y, y ≤ z ∧ couldNight p = nI y ∧ (y = z → ∀ d, s 6 = nI d → d ≤ 6 → ∀ t, t < 2 ^ d → could (64 * p + t) = nI (if couldN s p t then 1 else 0))
