/-! THE SMALL MACHINE: values are pairs (tag, number): 0 an int, 1 a long, 2 a reference (0 is null); numbers are plain integers, read modulo 2^32 or 2^64 where they are stored; the heap by fields. -/
abbrev PV : Type := Nat × Int
abbrev PH : Type := Int × Int × (Int → Nat × Int) × (Nat → Int → Int → Int)
abbrev PK : Type := Nat → List PV → List PV → PH → Prop
abbrev PR : Type := Option PV → PH → Prop
abbrev PC : Type := Nat → List PV → PH → PR → Prop
abbrev PI : Type := PC → List PV → List PV → PH → PK → PR → Prop
/-- the next free place, the slots in use, the kind of a cell (0 to 11: the classes; 12 int[], 13 long[], 14 boolean[], 15 byte[], 16 Member[], 17 Call[]; else none) and its length, what a field holds -/
def hn (h : PH) : Int := h.1
def hs (h : PH) : Int := h.2.1
def hk (h : PH) (a : Int) : Nat × Int := h.2.2.1 a
def hv (h : PH) (f : Nat) (a i : Int) : Int := h.2.2.2 f a i
def hput (h : PH) (f : Nat) (a i v : Int) : PH := (h.1, h.2.1, h.2.2.1, fun g b j => if g = f ∧ b = a ∧ j = i then v else h.2.2.2 g b j)
def hnew (h : PH) (k : Nat) (n : Int) (w : Int) : PH := (h.1 + 1, h.2.1 + w, fun b => if b = h.1 then (k, n) else h.2.2.1 b, fun g b j => if b = h.1 then 0 else h.2.2.2 g b j)
def hcopy (h : PH) (f : Nat) (s sp d dp n : Int) : PH := (h.1, h.2.1, h.2.2.1, fun g b j => if g = f ∧ b = d ∧ dp ≤ j ∧ j < dp + n then h.2.2.2 f s (sp + (j - dp)) else h.2.2.2 g b j)
def inI (z : Int) : Prop := -2147483648 ≤ z ∧ z < 2147483648
def inL (z : Int) : Prop := -9223372036854775808 ≤ z ∧ z < 9223372036854775808
def pm_lg : List PV → Nat → PV
  | [], _ => (9, 0)
  | x :: _, 0 => x
  | _ :: xs, n + 1 => pm_lg xs n
def pm_s1 : List PV → Nat → PV → (List PV → Prop) → Prop
  | [], _, _, _ => False
  | _ :: xs, 0, v, k => k (v :: xs)
  | x :: xs, n + 1, v, k => cond (Nat.beq n 0 && Nat.beq x.1 1) (pm_s1 xs n v (fun ys => k ((9, 0) :: ys))) (pm_s1 xs n v (fun ys => k (x :: ys)))
/-- a long: its place, and the one behind it -/
def pm_s2 : List PV → Nat → PV → (List PV → Prop) → Prop
  | [], _, _, _ => False
  | _ :: xs, 0, v, k => (match xs with | [] => False | _ :: ys => k (v :: (9, 0) :: ys))
  | x :: xs, n + 1, v, k => cond (Nat.beq n 0 && Nat.beq x.1 1) (pm_s2 xs n v (fun ys => k ((9, 0) :: ys))) (pm_s2 xs n v (fun ys => k (x :: ys)))
def pm_pad : Nat → List PV → List PV
  | 0, _ => []
  | n + 1, [] => (9, 0) :: pm_pad n []
  | n + 1, x :: xs => x :: pm_pad n xs
def pm_ar : List PV → List PV
  | [] => []
  | x :: xs => cond (Nat.beq x.1 1) (x :: (9, 0) :: pm_ar xs) (x :: pm_ar xs)
/-- the top n of the stack, the deepest first, and the rest -/
def pm_pop : Nat → List PV → List PV → (List PV → List PV → Prop) → Prop
  | 0, acc, st, k => k acc st
  | _ + 1, _, [], _ => False
  | n + 1, acc, x :: st, k => pm_pop n (x :: acc) st k
def pm_w : List PV → Nat
  | [] => 0
  | x :: xs => cond (Nat.beq x.1 1) (pm_w xs + 2) (pm_w xs + 1)
def pm_cmp (a b : Int) : Int := if a < b then -1 else if a = b then 0 else 1
def pm_b8 (a : Int) : Int := (a + 128) % 256 - 128
def pm_pl (a : Int) : Int := if a = 115 then 0 else if a = 114 then 1 else if a = 102 then 2 else if a = 104 then 3 else if a = 103 then 4 else if a = 98 then 5 else if a = 108 then 6 else if a = 113 then 7 else -1
def pm_ts (K : Nat → Prop) (d : Nat) (a : Int) : Int → List Nat → Prop
  | _, [] => K d
  | lo, t :: ts => (a = lo → K t) ∧ (a ≠ lo → pm_ts K d a (lo + 1) ts)
def pm_ls (K : Nat → Prop) (d : Nat) (a : Int) : List (Int × Nat) → Prop
  | [] => K d
  | t :: ts => (a = t.1 → K t.2) ∧ (a ≠ t.1 → pm_ls K d a ts)
def NB : Int := 600005
def SB : Int := 7302249
/-! the instructions; the last argument is where it goes on -/
def i_none : PI := fun _ _ _ _ _ _ => False
def i_push (t : Nat) (z : Int) (nx : Nat) : PI := fun _ ls st h K _ => K nx ls ((t, z) :: st) h
def i_load (i t nx : Nat) : PI := fun _ ls st h K _ => match pm_lg ls i with
  | (u, z) => cond (Nat.beq u t) (K nx ls ((t, z) :: st) h) False
def i_store (i t nx : Nat) : PI := fun _ ls st h K _ => match st with
  | (u, z) :: st => cond (Nat.beq u t) (pm_s1 ls i (t, z) (fun ls => K nx ls st h)) False
  | [] => False
def i_stoL (i nx : Nat) : PI := fun _ ls st h K _ => match st with
  | (1, z) :: st => pm_s2 ls i (1, z) (fun ls => K nx ls st h)
  | _ => False
def i_iinc (i : Nat) (n : Int) (nx : Nat) : PI := fun _ ls st h K _ => match pm_lg ls i with
  | (0, z) => pm_s1 ls i (0, z + n) (fun ls => K nx ls st h)
  | _ => False
def i_iadd (nx : Nat) : PI := fun _ ls st h K _ => match st with | (0, b) :: (0, a) :: st => K nx ls ((0, a + b) :: st) h | _ => False
def i_isub (nx : Nat) : PI := fun _ ls st h K _ => match st with | (0, b) :: (0, a) :: st => K nx ls ((0, a - b) :: st) h | _ => False
def i_imul (nx : Nat) : PI := fun _ ls st h K _ => match st with | (0, b) :: (0, a) :: st => K nx ls ((0, a * b) :: st) h | _ => False
def i_ineg (nx : Nat) : PI := fun _ ls st h K _ => match st with | (0, a) :: st => K nx ls ((0, -a) :: st) h | _ => False
def i_idiv (nx : Nat) : PI := fun _ ls st h K _ => match st with | (0, b) :: (0, a) :: st => (inI a ∧ inI b ∧ b ≠ 0) ∧ K nx ls ((0, Int.tdiv a b) :: st) h | _ => False
def i_irem (nx : Nat) : PI := fun _ ls st h K _ => match st with | (0, b) :: (0, a) :: st => (inI a ∧ inI b ∧ b ≠ 0) ∧ K nx ls ((0, Int.tmod a b) :: st) h | _ => False
def i_iand (nx : Nat) : PI := fun _ ls st h K _ => match st with | (0, b) :: (0, a) :: st => (b = 1 ∨ b = 15 ∨ b = 255) ∧ K nx ls ((0, a % (b + 1)) :: st) h | _ => False
def i_ishl (nx : Nat) : PI := fun _ ls st h K _ => match st with | (0, b) :: (0, a) :: st => (0 ≤ b ∧ b < 32) ∧ K nx ls ((0, a * 2 ^ b.toNat) :: st) h | _ => False
def i_ishr (nx : Nat) : PI := fun _ ls st h K _ => match st with | (0, b) :: (0, a) :: st => (inI a ∧ 0 ≤ b ∧ b < 32) ∧ K nx ls ((0, a / 2 ^ b.toNat) :: st) h | _ => False
def i_iushr (nx : Nat) : PI := fun _ ls st h K _ => match st with | (0, b) :: (0, a) :: st => (0 ≤ b ∧ b < 32) ∧ K nx ls ((0, a % 4294967296 / 2 ^ b.toNat) :: st) h | _ => False
def i_i2l (nx : Nat) : PI := fun _ ls st h K _ => match st with | (0, a) :: st => inI a ∧ K nx ls ((1, a) :: st) h | _ => False
def i_l2i (nx : Nat) : PI := fun _ ls st h K _ => match st with | (1, a) :: st => K nx ls ((0, a) :: st) h | _ => False
def i_i2b (nx : Nat) : PI := fun _ ls st h K _ => match st with | (0, a) :: st => K nx ls ((0, pm_b8 a) :: st) h | _ => False
def i_ladd (nx : Nat) : PI := fun _ ls st h K _ => match st with | (1, b) :: (1, a) :: st => K nx ls ((1, a + b) :: st) h | _ => False
def i_lsub (nx : Nat) : PI := fun _ ls st h K _ => match st with | (1, b) :: (1, a) :: st => K nx ls ((1, a - b) :: st) h | _ => False
def i_lmul (nx : Nat) : PI := fun _ ls st h K _ => match st with | (1, b) :: (1, a) :: st => K nx ls ((1, a * b) :: st) h | _ => False
def i_ldiv (nx : Nat) : PI := fun _ ls st h K _ => match st with | (1, b) :: (1, a) :: st => (inL a ∧ inL b ∧ b ≠ 0) ∧ K nx ls ((1, Int.tdiv a b) :: st) h | _ => False
def i_lcmp (nx : Nat) : PI := fun _ ls st h K _ => match st with | (1, b) :: (1, a) :: st => (inL a ∧ inL b) ∧ K nx ls ((0, pm_cmp a b) :: st) h | _ => False
def i_dup (nx : Nat) : PI := fun _ ls st h K _ => match st with | (t, a) :: st => cond (Nat.beq t 1) False (K nx ls ((t, a) :: (t, a) :: st) h) | _ => False
def i_pop (nx : Nat) : PI := fun _ ls st h K _ => match st with | (t, _) :: st => cond (Nat.beq t 1) False (K nx ls st h) | _ => False
def i_goto (nx : Nat) : PI := fun _ ls st h K _ => K nx ls st h
def i_ifeq (tg nx : Nat) : PI := fun _ ls st h K _ => match st with | (0, a) :: st => inI a ∧ (a = 0 → K tg ls st h) ∧ (¬ a = 0 → K nx ls st h) | _ => False
def i_ifne (tg nx : Nat) : PI := fun _ ls st h K _ => match st with | (0, a) :: st => inI a ∧ (¬ a = 0 → K tg ls st h) ∧ (a = 0 → K nx ls st h) | _ => False
def i_iflt (tg nx : Nat) : PI := fun _ ls st h K _ => match st with | (0, a) :: st => inI a ∧ (a < 0 → K tg ls st h) ∧ (0 ≤ a → K nx ls st h) | _ => False
def i_ifge (tg nx : Nat) : PI := fun _ ls st h K _ => match st with | (0, a) :: st => inI a ∧ (0 ≤ a → K tg ls st h) ∧ (a < 0 → K nx ls st h) | _ => False
def i_ifgt (tg nx : Nat) : PI := fun _ ls st h K _ => match st with | (0, a) :: st => inI a ∧ (0 < a → K tg ls st h) ∧ (a ≤ 0 → K nx ls st h) | _ => False
def i_ifle (tg nx : Nat) : PI := fun _ ls st h K _ => match st with | (0, a) :: st => inI a ∧ (a ≤ 0 → K tg ls st h) ∧ (0 < a → K nx ls st h) | _ => False
def i_cmeq (tg nx : Nat) : PI := fun _ ls st h K _ => match st with | (0, b) :: (0, a) :: st => (inI a ∧ inI b) ∧ (a = b → K tg ls st h) ∧ (¬ a = b → K nx ls st h) | _ => False
def i_cmne (tg nx : Nat) : PI := fun _ ls st h K _ => match st with | (0, b) :: (0, a) :: st => (inI a ∧ inI b) ∧ (¬ a = b → K tg ls st h) ∧ (a = b → K nx ls st h) | _ => False
def i_cmlt (tg nx : Nat) : PI := fun _ ls st h K _ => match st with | (0, b) :: (0, a) :: st => (inI a ∧ inI b) ∧ (a < b → K tg ls st h) ∧ (b ≤ a → K nx ls st h) | _ => False
def i_cmge (tg nx : Nat) : PI := fun _ ls st h K _ => match st with | (0, b) :: (0, a) :: st => (inI a ∧ inI b) ∧ (b ≤ a → K tg ls st h) ∧ (a < b → K nx ls st h) | _ => False
def i_cmgt (tg nx : Nat) : PI := fun _ ls st h K _ => match st with | (0, b) :: (0, a) :: st => (inI a ∧ inI b) ∧ (b < a → K tg ls st h) ∧ (a ≤ b → K nx ls st h) | _ => False
def i_cmle (tg nx : Nat) : PI := fun _ ls st h K _ => match st with | (0, b) :: (0, a) :: st => (inI a ∧ inI b) ∧ (a ≤ b → K tg ls st h) ∧ (b < a → K nx ls st h) | _ => False
def i_null (tg nx : Nat) : PI := fun _ ls st h K _ => match st with | (2, a) :: st => (a = 0 → K tg ls st h) ∧ (¬ a = 0 → K nx ls st h) | _ => False
def i_nnul (tg nx : Nat) : PI := fun _ ls st h K _ => match st with | (2, a) :: st => (¬ a = 0 → K tg ls st h) ∧ (a = 0 → K nx ls st h) | _ => False
def i_tsw (d : Nat) (lo : Int) (ts : List Nat) : PI := fun _ ls st h K _ => match st with | (0, a) :: st => inI a ∧ pm_ts (fun t => K t ls st h) d a lo ts | _ => False
def i_lsw (d : Nat) (ts : List (Int × Nat)) : PI := fun _ ls st h K _ => match st with | (0, a) :: st => inI a ∧ pm_ls (fun t => K t ls st h) d a ts | _ => False
def i_getf (c f t nx : Nat) : PI := fun _ ls st h K _ => match st with | (2, a) :: st => (hk h a).1 = c ∧ K nx ls ((t, hv h f a 0) :: st) h | _ => False
def i_putf (c f t nx : Nat) : PI := fun _ ls st h K _ => match st with | (u, v) :: (2, a) :: st => cond (Nat.beq u t) ((hk h a).1 = c ∧ K nx ls st (hput h f a 0 v)) False | _ => False
/-- a field of type boolean -/
def i_putz (c f nx : Nat) : PI := fun _ ls st h K _ => match st with | (0, v) :: (2, a) :: st => ((hk h a).1 = c ∧ (v = 0 ∨ v = 1)) ∧ K nx ls st (hput h f a 0 v) | _ => False
def i_ald (c f t nx : Nat) : PI := fun _ ls st h K _ => match st with | (0, i) :: (2, a) :: st => ((hk h a).1 = c ∧ 0 ≤ i ∧ i < (hk h a).2) ∧ K nx ls ((t, hv h f a i) :: st) h | _ => False
def i_ast (c f t nx : Nat) : PI := fun _ ls st h K _ => match st with | (u, v) :: (0, i) :: (2, a) :: st => cond (Nat.beq u t) (((hk h a).1 = c ∧ 0 ≤ i ∧ i < (hk h a).2 ∧ 5 ≤ a) ∧ K nx ls st (hput h f a i v)) False | _ => False
def i_astz (nx : Nat) : PI := fun _ ls st h K _ => match st with | (0, v) :: (0, i) :: (2, a) :: st => ((hk h a).1 = 14 ∧ 0 ≤ i ∧ i < (hk h a).2 ∧ 5 ≤ a ∧ (v = 0 ∨ v = 1)) ∧ K nx ls st (hput h 896 a i v) | _ => False
def i_astb (nx : Nat) : PI := fun _ ls st h K _ => match st with | (0, v) :: (0, i) :: (2, a) :: st => ((hk h a).1 = 15 ∧ 0 ≤ i ∧ i < (hk h a).2 ∧ 5 ≤ a ∧ -128 ≤ v ∧ v < 128) ∧ K nx ls st (hput h 960 a i v) | _ => False
/-- a reference into an array of objects of class ec -/
def i_astr (c f ec nx : Nat) : PI := fun _ ls st h K _ => match st with | (2, v) :: (0, i) :: (2, a) :: st => ((hk h a).1 = c ∧ 0 ≤ i ∧ i < (hk h a).2 ∧ 5 ≤ a ∧ (hk h v).1 = ec) ∧ K nx ls st (hput h f a i v) | _ => False
def i_alen (nx : Nat) : PI := fun _ ls st h K _ => match st with | (2, a) :: st => ((hk h a).1 = 12 ∧ (a = 1 ∨ 5 ≤ a)) ∧ K nx ls ((0, (hk h a).2) :: st) h | _ => False
def i_newa (c nx : Nat) : PI := fun _ ls st h K _ => match st with | (0, n) :: st => (0 ≤ n ∧ n ≤ 4000 ∧ hn h + 1 ≤ NB ∧ hs h + n ≤ SB) ∧ K nx ls ((2, hn h) :: st) (hnew h c n n) | _ => False
def i_new (c : Nat) (w : Int) (nx : Nat) : PI := fun _ ls st h K _ => (hn h + 1 ≤ NB ∧ hs h + w ≤ SB) ∧ K nx ls ((2, hn h) :: st) (hnew h c 0 w)
def i_oin (nx : Nat) : PI := fun _ ls st h K _ => match st with | (2, a) :: st => ¬ a = 0 ∧ cond (Nat.ble (pm_w st) 8) (K nx ls st h) False | _ => False
def i_gst (k : Int) (nx : Nat) : PI := fun _ ls st h K _ => K nx ls ((2, k) :: st) h
def i_copy (nx : Nat) : PI := fun _ ls st h K _ => match st with | (0, n) :: (0, dp) :: (2, d) :: (0, sp) :: (2, s) :: st => ((hk h s).1 = 12 ∧ (hk h d).1 = 12 ∧ 5 ≤ d ∧ 0 ≤ sp ∧ 0 ≤ dp ∧ 0 ≤ n ∧ sp + n ≤ (hk h s).2 ∧ dp + n ≤ (hk h d).2) ∧ cond (Nat.ble (pm_w st) 8) (K nx ls st (hcopy h 768 s sp d dp n)) False | _ => False
def i_clon (nx : Nat) : PI := fun _ ls st h K _ => match st with | (2, s) :: st => ((hk h s).1 = 12 ∧ (s = 2 ∨ 5 ≤ s) ∧ hn h + 1 ≤ NB ∧ hs h + (hk h s).2 ≤ SB) ∧ cond (Nat.ble (pm_w st) 8) (K nx ls ((2, hn h) :: st) (hcopy (hnew h 12 (hk h s).2 (hk h s).2) 768 s 0 (hn h) 0 (hk h s).2)) False | _ => False
def i_cast (nx : Nat) : PI := fun _ ls st h K _ => match st with | (2, a) :: st => ((hk h a).1 = 12 ∧ 5 ≤ a) ∧ K nx ls ((2, a) :: st) h | _ => False
/-- a call on an object of class c; one of a static method -/
def i_call (y c n nx : Nat) : PI := fun C ls st h K _ => pm_pop n [] st (fun as st => match st with | (2, a) :: st => (hk h a).1 = c ∧ cond (Nat.ble (pm_w st) 8) (C y ((2, a) :: as) h (fun r h => K nx ls (r.toList ++ st) h)) False | _ => False)
def i_cals (y n nx : Nat) : PI := fun C ls st h K _ => pm_pop n [] st (fun as st => cond (Nat.ble (pm_w st) 8) (C y as h (fun r h => K nx ls (r.toList ++ st) h)) False)
def i_reti : PI := fun _ _ st h _ R => match st with | [(0, v)] => R (some (0, v)) h | _ => False
def i_retz : PI := fun _ _ st h _ R => match st with | [(0, v)] => (v = 0 ∨ v = 1) ∧ R (some (0, v)) h | _ => False
def i_retl : PI := fun _ _ st h _ R => match st with | [(1, v)] => R (some (1, v)) h | _ => False
def i_reta : PI := fun _ _ st h _ R => match st with | [(2, v)] => ¬ v = 0 ∧ R (some (2, v)) h | _ => False
def i_retv : PI := fun _ _ st h _ R => match st with | [] => R none h | _ => False
/-! a method's code is a tree over the places of its instructions -/
def cbr (k : Nat) (l r : Nat → PI) : Nat → PI := fun pc => cond (Nat.ble k pc) (r pc) (l pc)
def clf (k : Nat) (i : PI) : Nat → PI := fun pc => cond (Nat.beq pc k) i i_none
