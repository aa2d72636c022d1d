section
/-- an invocation that has ended with 'o' at moment n was, at every moment up to k, still within the call: then k comes before n -/
theorem rm_over {tb : Tables} {e : Env} {s : State} {below : List Frame} {o : Outcome} {n k : Nat}
    (hn : Ended (stepsAlone tb e n s) below o) (hk : ∀ j, j ≤ k → Within (stepsAlone tb e j s) below) : k < n := by
  refine Nat.lt_of_not_le fun h => ?_
  obtain ⟨above, h1, h2, h3⟩ := hk n h
  cases o with
  | threw a =>
    have h4 : (stepsAlone tb e n s).frames = [Frame.throwing a] ++ below := hn
    rw [h4] at h1
    exact h3 a (List.append_cancel_right h1).symm
  | returned v =>
    have hl : (stepsAlone tb e n s).frames.length = below.length := by
      cases below with
      | nil => have h4 : v = none ∧ (stepsAlone tb e n s).frames = [] := hn
               rw [h4.2]
      | cons f r =>
        cases f <;> first
          | (obtain ⟨c, i, len, -, -, h4⟩ := hn; rw [h4]; rfl)
          | (simp only [Ended] at hn; rw [hn]; rfl)
          | (simp only [Ended] at hn; rw [hn.2])
    rw [h1, List.length_append] at hl
    exact h2 (List.length_eq_zero_iff.mp (by omega))
/-- an end within a frame condition has no more slots in use than it allows -/
theorem rm_used {s t : State} {o : Outcome} {L : List Loc} {k n : Nat} (h : Framed s o t L k n) : t.slotsUsed ≤ s.slotsUsed + n ∧ t.heap.size ≤ s.heap.size + k := by
  obtain ⟨-, -, -, -, h3, h4, h5, -⟩ := h
  have h4 : t.slotsUsed = s.slotsUsed + _ := h4
  refine ⟨?_, h3⟩
  rw [h4]
  exact Nat.add_le_add_left h5 _
/-- OPEN (its last hypothesis is not proved here): the claim is false as soon as ONE start that it allows comes, still within the law's call, to a moment with more new slots, or more new cells, than it allows -/
theorem rm_false_open {l : Launch} {p : Program} {e : Env} {s : State} {m : MethodId} {args : Array Value} {below : List Frame} (hf : l.flags = flags0)
    (h : AtStart classFile x code maxLocals ret World_1 tables_1 room_1 Calls_1 rest_1 Pre_1 l p e s m args below) (k : Nat)
    (hk : ∀ j, j ≤ k → Within (stepsAlone p.tables e j s) below)
    (hs : s.slotsUsed + room_1.slots < (stepsAlone p.tables e k s).slotsUsed ∨ s.heap.size + room_1.cells < (stepsAlone p.tables e k s).heap.size) : ¬ Claimed_1_1 := by
  intro hC
  obtain ⟨hL, hW, ha, -, hcas, hclk, hfr, hfit, hheap, happ, hcalls, hrest, hpre⟩ := h
  obtain ⟨n, o, -, -, he, hpost⟩ := hC l hf hL hW p e ha hcas hclk s m args below hfr hfit hheap happ ⟨hcalls, hrest, hpre⟩
  have h1 := rm_used hpost.2
  have h2 := rm_over he hk
  have h3 := stepsAlone_heap_grows_add p.tables e k (n - k) s
  rw [Nat.add_sub_cancel' (Nat.le_of_lt h2)] at h3
  have e1 : room_1.slots = 6972976 := rfl
  have e2 : room_1.cells = 707710 := rfl
  rw [e1, e2] at hs
  rcases hs with hs | hs
  · exact absurd (Nat.lt_of_lt_of_le hs h3.2) (Nat.not_lt.mpr h1.1)
  · exact absurd (Nat.lt_of_lt_of_le hs h3.1) (Nat.not_lt.mpr h1.2)
/-! THE COUNT, as read off the printed bytecode (claim/JAVAP.txt: BagsModel.textTold; claim/JDK.txt: AbstractStringBuilder, StringLatin1): NUMBERS ALONE, nothing here speaks of the machine.
One round of textTold's '+=' behind a text of 'len' signs (a member of four signs, 'x', a count of seven): a builder (3) with 16 bytes, what it grows to, a string (4) and its bytes. -/
def rm_grow (cs cap need : Nat) : Nat × Nat := if need ≤ cap then (cs, cap) else (cs + (cap + max (need - cap) (cap + 2)), cap + max (need - cap) (cap + 2))
def rm_round (len sep : Nat) : Nat :=
  let a := rm_grow 19 16 len
  let b := rm_grow a.1 a.2 (len + sep)
  let c := rm_grow b.1 b.2 (len + sep + 4)
  let d := rm_grow c.1 c.2 (len + sep + 5)
  let f := rm_grow d.1 d.2 (len + sep + 12)
  f.1 + 4 + (len + sep + 12)
def rm_text : Nat → Nat
  | 0 => rm_round 0 0
  | k + 1 => rm_text k + rm_round (13 * (k + 1) - 1) 1
theorem rm_counted : rm_text 39 = 41944 ∧ 6972976 < 167 * rm_text 39 ∧ 3 * 6972976 < 511 * rm_text 39 := by decide +kernel
end
