/-! THE GROUPS, in numbers -/
def gz (f n : Nat) : Nat := if f = 0 then n else if f = 1 then 2 * n else if f = 2 then 2 ^ n else 8
def gmost (f : Nat) : Nat := if f = 0 then 8 else if f = 1 then 4 else if f = 2 then 3 else 1
def gok (f n : Nat) : Prop := f < 4 ∧ 1 ≤ n ∧ n ≤ gmost f
def gmM (n a b : Nat) : Nat := (if a / n = 0 then (a % n + b % n) % n else (a % n + n - b % n) % n) + (if a / n = b / n then 0 else n)
def gmX (a b : Nat) : Nat := (if a % 4 = 0 then b % 4 else if b % 4 = 0 then a % 4 else if a % 4 = b % 4 then 0 else 6 - a % 4 - b % 4) + 4 * ((a / 4 + b / 4 + (if a % 4 = 0 then 0 else if b % 4 = 0 then 0 else if a % 4 = b % 4 then 1 else if b % 4 = a % 4 % 3 + 1 then 0 else 1)) % 2)
def gm (f n a b : Nat) : Nat := if f = 0 then (a + b) % n else if f = 1 then gmM n a b else if f = 2 then a ^^^ b else gmX a b
def gi (f n a : Nat) : Nat := fa_first (fun b => gm f n a b == 0) 8
def gpow (f n a : Nat) : Nat → Nat | 0 => 0 | k + 1 => gm f n (gpow f n a k) a
def go (f n a : Nat) : Nat := fa_first (fun k => gpow f n a (k + 1) == 0) 8 + 1
def gc (f n a b : Nat) : Nat := gm f n (gm f n (gi f n b) a) b
def orf : Nat → (Nat → Nat) → Nat | 0, _ => 0 | k + 1, g => orf k g ||| g k
def pws (f n a S : Nat) : Nat := orf (gz f n) (fun b => if S.testBit b then 2 ^ gm f n a b else 0)
def pss (f n S T : Nat) : Nat := orf (gz f n) (fun a => if S.testBit a then pws f n a T else 0)
def grow (f n : Nat) : Nat → Nat → Nat | 0, S => S | k + 1, S => if pss f n S S = S then S else grow f n k (pss f n S S)
def msp (f n : Nat) : Nat → Nat → Nat | 0, S => S | k + 1, S => if (S ||| pss f n S S) = S then S else msp f n k (S ||| pss f n S S)
def gs (f n S : Nat) : Nat := msp f n 4 (S ||| 1)
/-! all over finitely many -/
def allB : Nat → (Nat → Bool) → Bool | 0, _ => true | k + 1, p => p k && allB k p
theorem allB_at {p : Nat → Bool} : ∀ {n : Nat}, allB n p = true → ∀ i, i < n → p i = true
  | 0, _, i, hi => absurd hi (Nat.not_lt_zero i)
  | n + 1, h, i, hi => by
    rw [allB, Bool.and_eq_true] at h
    rcases Nat.lt_or_ge i n with q | q
    · exact allB_at h.2 i q
    · rw [show i = n by omega]; exact h.1
def allG (p : Nat → Nat → Bool) : Bool := allB 4 (fun f => allB (gmost f) (fun k => p f (k + 1)))
theorem allG_at {p : Nat → Nat → Bool} (h : allG p = true) {f n : Nat} (hg : gok f n) : p f n = true := by
  have h1 := allB_at (allB_at h f hg.1) (n - 1) (by have := hg.2; omega)
  rwa [show n - 1 + 1 = n by have := hg.2; omega] at h1
def allE (p : Nat → Nat → Nat → Bool) : Bool := allG (fun f n => allB (gz f n) (fun a => p f n a))
theorem allE_at {p : Nat → Nat → Nat → Bool} (h : allE p = true) {f n : Nat} (hg : gok f n) {a : Nat} (ha : a < gz f n) : p f n a = true := allB_at (allG_at h hg) a ha
def allE2 (p : Nat → Nat → Nat → Nat → Bool) : Bool := allE (fun f n a => allB (gz f n) (fun b => p f n a b))
theorem allE2_at {p : Nat → Nat → Nat → Nat → Bool} (h : allE2 p = true) {f n : Nat} (hg : gok f n) {a b : Nat} (ha : a < gz f n) (hb : b < gz f n) : p f n a b = true := allB_at (allE_at h hg ha) b hb
theorem orf_cong {g h : Nat → Nat} : ∀ {n : Nat}, (∀ k, k < n → g k = h k) → orf n g = orf n h
  | 0, _ => rfl
  | n + 1, e => by rw [orf, orf, orf_cong (fun k hk => e k (by omega)), e n (by omega)]
theorem orf_lt {g : Nat → Nat} {m : Nat} : ∀ {n : Nat}, (∀ k, k < n → g k < 2 ^ m) → orf n g < 2 ^ m
  | 0, _ => Nat.two_pow_pos m
  | n + 1, e => Nat.or_lt_two_pow (orf_lt (fun k hk => e k (by omega))) (e n (by omega))
theorem gz_le {f n : Nat} (h : gok f n) : gz f n ≤ 8 := by
  have : allG (fun f n => decide (gz f n ≤ 8)) = true := by decide +kernel
  simpa using allG_at this h
theorem gz_pos {f n : Nat} (h : gok f n) : 0 < gz f n := by
  have : allG (fun f n => decide (0 < gz f n)) = true := by decide +kernel
  simpa using allG_at this h
