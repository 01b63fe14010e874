/-! THE REFERENCE, method by method: its state is G k i: place i of its k-th row (rows in the order in which the constructor makes them: 0 members .. 35 voteCall, 36 tape, 37 said), and G 40 0, G 41 0, G 43 0 for calls, votes, taped -/
def wm (M : Int) (h : PH) (G : Int → Int → Int) : PH := (h.1, h.2.1, h.2.2.1, fun g a i => if M < a ∧ a ≤ M + 38 ∧ g = 64 * (h.2.2.1 a).1 then G (a - M - 1) i else if a = M ∧ i = 0 ∧ (g = 740 ∨ g = 741 ∨ g = 743) then G ((g : Int) - 700) 0 else h.2.2.2 g a i)
/-- kind and length of the k-th row, and the field that holds it -/
def mkk (k : Int) : Nat := if k ≤ 4 then 12 else if k ≤ 9 then 13 else if k ≤ 11 then 12 else if k = 12 then 14 else if k ≤ 19 then 12 else if k ≤ 27 then 13 else if k ≤ 30 then 14 else if k ≤ 35 then 12 else if k = 36 then 15 else 12
def mkl (k : Int) : Int := if k ≤ 9 then 3 else if k ≤ 11 then 24 else if k = 12 then 3 else if k ≤ 30 then 36 else if k ≤ 33 then 400 else if k = 34 then 3200 else if k = 35 then 400 else if k = 36 then 60 else 8
def mkf (k : Int) : Nat := if k ≤ 35 then 704 + k.toNat else if k = 36 then 742 else 744
def SkM (M : Int) (h : PH) : Prop := (5 ≤ M ∧ (hk h M).1 = 11) ∧ ∀ k, 0 ≤ k → k ≤ 37 → hk h (M + 1 + k) = (mkk k, mkl k) ∧ hv h (mkf k) M 0 = M + 1 + k
def upG (G : Int → Int → Int) (k i v : Int) : Int → Int → Int := fun a b => if a = k ∧ b = i then v else G a b
theorem wm_hk (M : Int) (h : PH) (G : Int → Int → Int) (a : Int) : hk (wm M h G) a = hk h a := rfl
theorem wm_rd {M : Int} {h : PH} (S : SkM M h) (G : Int → Int → Int) {k : Int} {f : Nat} (h0 : 0 ≤ k) (h1 : k ≤ 37) (hf : f = 64 * mkk k) (i : Int) : hv (wm M h G) f (M + 1 + k) i = G k i := by
  have e := (S.2 k h0 h1).1
  show (if M < M + 1 + k ∧ M + 1 + k ≤ M + 38 ∧ f = 64 * (hk h (M + 1 + k)).1 then G (M + 1 + k - M - 1) i else _) = _
  rw [if_pos ⟨by omega, by omega, by rw [e]; exact hf⟩]
  congr 1
  omega
theorem wm_fd {M : Int} {h : PH} (S : SkM M h) (G : Int → Int → Int) {k : Int} {f : Nat} (h0 : 0 ≤ k) (h1 : k ≤ 37) (hf : f = mkf k) (h2 : f ≠ 740 ∧ f ≠ 741 ∧ f ≠ 743) : hv (wm M h G) f M 0 = M + 1 + k := by
  rw [← (S.2 k h0 h1).2, ← hf]
  show (if M < M ∧ _ then _ else if M = M ∧ (0 : Int) = 0 ∧ (f = 740 ∨ f = 741 ∨ f = 743) then _ else hv h f M 0) = _
  rw [if_neg (by omega), if_neg (by omega)]
theorem wm_put {M : Int} {h : PH} (S : SkM M h) (G : Int → Int → Int) {k : Int} {f : Nat} (h0 : 0 ≤ k) (h1 : k ≤ 37) (hf : f = 64 * mkk k) (i v : Int) : hput (wm M h G) f (M + 1 + k) i v = wm M h (upG G k i v) := by
  have e := (S.2 k h0 h1).1
  refine Prod.ext rfl (Prod.ext rfl (Prod.ext rfl ?_))
  funext g a j
  show (if g = f ∧ a = M + 1 + k ∧ j = i then v else (if M < a ∧ a ≤ M + 38 ∧ g = 64 * (hk h a).1 then G (a - M - 1) j else _)) = (if M < a ∧ a ≤ M + 38 ∧ g = 64 * (hk h a).1 then (if a - M - 1 = k ∧ j = i then v else G (a - M - 1) j) else _)
  by_cases c1 : M < a ∧ a ≤ M + 38 ∧ g = 64 * (hk h a).1
  · rw [if_pos c1, if_pos c1]
    by_cases c2 : a = M + 1 + k ∧ j = i
    · rw [if_pos ⟨by rw [c1.2.2, c2.1, e, hf], c2.1, c2.2⟩, if_pos ⟨by omega, c2.2⟩]
    · rw [if_neg (fun z => c2 z.2), if_neg (fun z => c2 ⟨by omega, z.2⟩)]
  · rw [if_neg (fun z => c1 ⟨by omega, by omega, by rw [z.1, z.2.1, e, hf]⟩), if_neg c1, if_neg c1]
    by_cases c3 : a = M ∧ j = 0 ∧ (g = 740 ∨ g = 741 ∨ g = 743)
    · rw [if_pos c3, if_pos c3]
      show G _ 0 = if (g : Int) - 700 = k ∧ (0 : Int) = i then v else G _ 0
      rw [if_neg (by omega)]
    · rw [if_neg c3, if_neg c3]
/-- isMember(c, m) -/
theorem m_isMember (d : Nat) {M c m : Int} {h : PH} {G : Int → Int → Int} {R : PR} (S : SkM M h) (hc : 0 ≤ c ∧ c < 3) (hm : inI m) (hG : inI (G 0 c)) (hR : R (some (0, if 0 ≤ m ∧ m < G 0 c then 1 else 0)) (wm M h G)) : WPM (d + 1) 99 [(2, M), (0, c), (0, m)] (wm M h G) R := by
  refine ⟨rfl, fun X hX => ?_⟩
  refine hX _ _ _ _ ?_
  refine hX _ _ _ _ ⟨hm, fun c1 => ?_, fun c1 => ?_⟩
  · rw [if_neg (by omega)] at hR
    refine hX _ _ _ _ ?_
    exact hX _ _ _ _ ⟨Or.inl rfl, hR⟩
  · refine hX _ _ _ _ ?_
    refine hX _ _ _ _ ?_
    refine hX _ _ _ _ ⟨S.1.2, ?_⟩
    rw [wm_fd S G (k := 0) (f := 704) (by decide) (by decide) rfl (by decide)]
    refine hX _ _ _ _ ?_
    refine hX _ _ _ _ ⟨⟨by rw [wm_hk, (S.2 0 (by decide) (by decide)).1]; rfl, hc.1, by rw [wm_hk, (S.2 0 (by decide) (by decide)).1]; exact hc.2⟩, ?_⟩
    rw [wm_rd S G (k := 0) (f := 768) (by decide) (by decide) rfl]
    refine hX _ _ _ _ ⟨⟨hm, hG⟩, fun c2 => ?_, fun c2 => ?_⟩
    · rw [if_neg (by omega)] at hR
      refine hX _ _ _ _ ?_
      exact hX _ _ _ _ ⟨Or.inl rfl, hR⟩
    · rw [if_pos ⟨c1, c2⟩] at hR
      refine hX _ _ _ _ ?_
      refine hX _ _ _ _ ?_
      exact hX _ _ _ _ ⟨Or.inr rfl, hR⟩
