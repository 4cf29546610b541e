/-! The law's wrappers: what a call of the class came to, and which exception. -/
theorem kI_mono {d j : Nat} {as : List Value} {h : hp} {F F' : Int32 → hp → Prop} {X X' : Nat → hp → Prop} (x : cal d j as h (kI F X)) (hF : ∀ r h2, F r h2 → F' r h2) (hX : ∀ e h2, X e h2 → X' e h2) : cal d j as h (kI F' X') :=
  cal_mono d _ _ _ _ _ (fun o h2 y => match o, y with
    | .inl (some (.int r)), y => hF r h2 y
    | .inr e, y => hX e h2 y) x
def WQ (I0 : Nat → Nat → Int32) (L : hL) (x jm e : Nat) (as : List Value) (g : Int32 → Int64) (z l : Nat) (ex : Bool) (c : Int32) (h2 : hp) : Prop :=
  (c = nI 0 ∧ ∃ r I2 J0, h2 = (L, I2, wr J0 (x + 281) 0 (g r), z, l, ex) ∧ (∀ a, a < x → I2 a = I0 a) ∧ ∀ J2, cal (e + 40) jm (.ref (x + 271) :: as) (L, I2, J2, z, l, ex) (kI (fun r2 h3 => r2 = r ∧ FN I0 L x 0 J2 (z, l, ex) h3) (fun _ _ => False))) ∨ ∃ q, (q = 1 ∨ q = 2) ∧ c = nI q ∧ MD I0 L x jm e as (fun _ => True) q (z + 1, l + 6, false) h2
section WRAPS
variable {I0 I : Nat → Nat → Int32} {J : Nat → Nat → Int64} {L : hL} {x d e z l : Nat} {ex : Bool}
theorem n9 {P : Prop} (h : (9 = 9 → False)) : P := (h rfl).elim
theorem wq61 {p1 : Int32} (hK : LK L x) (hp : PR I0 L x 62 179 0 9 d e [.int p1] I J z l ex) : cal (d + 41) 61 [.ref x, .int p1, .ref (x + 281)] (L, I, J, z, l, ex) (kI (WQ I0 L x 179 e [.int p1] Int32.toInt64 z l ex) (fun _ _ => False)) := by
  refine e61 (t61_0 ?_)
  simp only [LK_ hK, true_and]
  refine kI_mono hp (fun r h2 hm => ?_) (fun q h2 hm => ?_)
  · obtain ⟨I2, J0, rfl, lo, hm⟩ := hm
    refine t61_7 ?_
    simp (disch := omega) only [LK_ hK, vpT, nI_clamp, true_and, kIi]
    exact Or.inl ⟨rfl, r, I2, J0, rfl, lo, hm⟩
  · rcases hm with ⟨rfl, n, hm⟩ | ⟨rfl, n, hm⟩
    · exact ⟨rfl, t61_13 (show WQ _ _ _ _ _ _ _ _ _ _ _ _ from Or.inr ⟨1, Or.inl rfl, rfl, hm⟩)⟩
    · exact n9 n
theorem wq81 {p1 : Int32} (hK : LK L x) (hp : PR I0 L x 82 194 1 9 d e [.int p1] I J z l ex) : cal (d + 41) 81 [.ref x, .int p1, .ref (x + 281)] (L, I, J, z, l, ex) (kI (WQ I0 L x 194 e [.int p1] Int32.toInt64 z l ex) (fun _ _ => False)) := by
  refine e81 (t81_0 ?_)
  simp only [LK_ hK, true_and]
  refine kI_mono hp (fun r h2 hm => ?_) (fun q h2 hm => ?_)
  · obtain ⟨I2, J0, rfl, lo, hm⟩ := hm
    refine t81_7 ?_
    simp (disch := omega) only [LK_ hK, vpT, nI_clamp, true_and, kIi]
    exact Or.inl ⟨rfl, r, I2, J0, rfl, lo, hm⟩
  · rcases hm with ⟨rfl, n, hm⟩ | ⟨rfl, n, hm⟩
    · exact ⟨rfl, t81_13 (show WQ _ _ _ _ _ _ _ _ _ _ _ _ from Or.inr ⟨1, Or.inl rfl, rfl, hm⟩)⟩
    · exact n9 n
theorem wq88 {p1 : Int32} {p2 : Int32} (hK : LK L x) (hp : PR I0 L x 89 212 1 9 d e [.int p1, .int p2] I J z l ex) : cal (d + 41) 88 [.ref x, .int p1, .int p2, .ref (x + 281)] (L, I, J, z, l, ex) (kI (WQ I0 L x 212 e [.int p1, .int p2] Int32.toInt64 z l ex) (fun _ _ => False)) := by
  refine e88 (t88_0 ?_)
  simp only [LK_ hK, true_and]
  refine kI_mono hp (fun r h2 hm => ?_) (fun q h2 hm => ?_)
  · obtain ⟨I2, J0, rfl, lo, hm⟩ := hm
    refine t88_8 ?_
    simp (disch := omega) only [LK_ hK, vpT, nI_clamp, true_and, kIi]
    exact Or.inl ⟨rfl, r, I2, J0, rfl, lo, hm⟩
  · rcases hm with ⟨rfl, n, hm⟩ | ⟨rfl, n, hm⟩
    · exact ⟨rfl, t88_15 (show WQ _ _ _ _ _ _ _ _ _ _ _ _ from Or.inr ⟨1, Or.inl rfl, rfl, hm⟩)⟩
    · exact n9 n
theorem wq95 {p1 : Int32} (hK : LK L x) (hp : PR I0 L x 96 218 1 9 d e [.int p1] I J z l ex) : cal (d + 41) 95 [.ref x, .int p1, .ref (x + 281)] (L, I, J, z, l, ex) (kI (WQ I0 L x 218 e [.int p1] Int32.toInt64 z l ex) (fun _ _ => False)) := by
  refine e95 (t95_0 ?_)
  simp only [LK_ hK, true_and]
  refine kI_mono hp (fun r h2 hm => ?_) (fun q h2 hm => ?_)
  · obtain ⟨I2, J0, rfl, lo, hm⟩ := hm
    refine t95_7 ?_
    simp (disch := omega) only [LK_ hK, vpT, nI_clamp, true_and, kIi]
    exact Or.inl ⟨rfl, r, I2, J0, rfl, lo, hm⟩
  · rcases hm with ⟨rfl, n, hm⟩ | ⟨rfl, n, hm⟩
    · exact ⟨rfl, t95_13 (show WQ _ _ _ _ _ _ _ _ _ _ _ _ from Or.inr ⟨1, Or.inl rfl, rfl, hm⟩)⟩
    · exact n9 n
theorem wq97 {p1 : Int32} {p2 : Int32} (hK : LK L x) (hp : PR I0 L x 98 219 1 9 d e [.int p1, .int p2] I J z l ex) : cal (d + 41) 97 [.ref x, .int p1, .int p2, .ref (x + 281)] (L, I, J, z, l, ex) (kI (WQ I0 L x 219 e [.int p1, .int p2] Int32.toInt64 z l ex) (fun _ _ => False)) := by
  refine e97 (t97_0 ?_)
  simp only [LK_ hK, true_and]
  refine kI_mono hp (fun r h2 hm => ?_) (fun q h2 hm => ?_)
  · obtain ⟨I2, J0, rfl, lo, hm⟩ := hm
    refine t97_8 ?_
    simp (disch := omega) only [LK_ hK, vpT, nI_clamp, true_and, kIi]
    exact Or.inl ⟨rfl, r, I2, J0, rfl, lo, hm⟩
  · rcases hm with ⟨rfl, n, hm⟩ | ⟨rfl, n, hm⟩
    · exact ⟨rfl, t97_15 (show WQ _ _ _ _ _ _ _ _ _ _ _ _ from Or.inr ⟨1, Or.inl rfl, rfl, hm⟩)⟩
    · exact n9 n
theorem wq99 {p1 : Int32} {p2 : Int32} (hK : LK L x) (hp : PR I0 L x 100 221 1 9 d e [.int p1, .int p2] I J z l ex) : cal (d + 41) 99 [.ref x, .int p1, .int p2, .ref (x + 281)] (L, I, J, z, l, ex) (kI (WQ I0 L x 221 e [.int p1, .int p2] Int32.toInt64 z l ex) (fun _ _ => False)) := by
  refine e99 (t99_0 ?_)
  simp only [LK_ hK, true_and]
  refine kI_mono hp (fun r h2 hm => ?_) (fun q h2 hm => ?_)
  · obtain ⟨I2, J0, rfl, lo, hm⟩ := hm
    refine t99_8 ?_
    simp (disch := omega) only [LK_ hK, vpT, nI_clamp, true_and, kIi]
    exact Or.inl ⟨rfl, r, I2, J0, rfl, lo, hm⟩
  · rcases hm with ⟨rfl, n, hm⟩ | ⟨rfl, n, hm⟩
    · exact ⟨rfl, t99_15 (show WQ _ _ _ _ _ _ _ _ _ _ _ _ from Or.inr ⟨1, Or.inl rfl, rfl, hm⟩)⟩
    · exact n9 n
theorem wq101 {p1 : Int32} {p2 : Int32} {p3 : Int32} {p4 : Int32} (hK : LK L x) (hp : PR I0 L x 102 222 0 9 d e [.int p1, .int p2, .int p3, .int p4] I J z l ex) : cal (d + 41) 101 [.ref x, .int p1, .int p2, .int p3, .int p4, .ref (x + 281)] (L, I, J, z, l, ex) (kI (WQ I0 L x 222 e [.int p1, .int p2, .int p3, .int p4] Int32.toInt64 z l ex) (fun _ _ => False)) := by
  refine e101 (t101_0 ?_)
  simp only [LK_ hK, true_and]
  refine kI_mono hp (fun r h2 hm => ?_) (fun q h2 hm => ?_)
  · obtain ⟨I2, J0, rfl, lo, hm⟩ := hm
    refine t101_12 ?_
    simp (disch := omega) only [LK_ hK, vpT, nI_clamp, true_and, kIi]
    exact Or.inl ⟨rfl, r, I2, J0, rfl, lo, hm⟩
  · rcases hm with ⟨rfl, n, hm⟩ | ⟨rfl, n, hm⟩
    · exact ⟨rfl, t101_19 (show WQ _ _ _ _ _ _ _ _ _ _ _ _ from Or.inr ⟨1, Or.inl rfl, rfl, hm⟩)⟩
    · exact n9 n
theorem wq103 {p1 : Int32} (hK : LK L x) (hp : PR I0 L x 104 224 1 9 d e [.int p1] I J z l ex) : cal (d + 41) 103 [.ref x, .int p1, .ref (x + 281)] (L, I, J, z, l, ex) (kI (WQ I0 L x 224 e [.int p1] Int32.toInt64 z l ex) (fun _ _ => False)) := by
  refine e103 (t103_0 ?_)
  simp only [LK_ hK, true_and]
  refine kI_mono hp (fun r h2 hm => ?_) (fun q h2 hm => ?_)
  · obtain ⟨I2, J0, rfl, lo, hm⟩ := hm
    refine t103_7 ?_
    simp (disch := omega) only [LK_ hK, vpT, nI_clamp, true_and, kIi]
    exact Or.inl ⟨rfl, r, I2, J0, rfl, lo, hm⟩
  · rcases hm with ⟨rfl, n, hm⟩ | ⟨rfl, n, hm⟩
    · exact ⟨rfl, t103_13 (show WQ _ _ _ _ _ _ _ _ _ _ _ _ from Or.inr ⟨1, Or.inl rfl, rfl, hm⟩)⟩
    · exact n9 n
theorem wq107 {p1 : Int32} {p2 : Int32} {p3 : Int32} (hK : LK L x) (hp : PR I0 L x 108 226 1 0 d e [.int p1, .int p2, .int p3] I J z l ex) : cal (d + 41) 107 [.ref x, .int p1, .int p2, .int p3, .ref (x + 281)] (L, I, J, z, l, ex) (kI (WQ I0 L x 226 e [.int p1, .int p2, .int p3] Int32.toInt64 z l ex) (fun _ _ => False)) := by
  refine e107 (t107_0 ?_)
  simp only [LK_ hK, true_and]
  refine kI_mono hp (fun r h2 hm => ?_) (fun q h2 hm => ?_)
  · obtain ⟨I2, J0, rfl, lo, hm⟩ := hm
    refine t107_10 ?_
    simp (disch := omega) only [LK_ hK, vpT, nI_clamp, true_and, kIi]
    exact Or.inl ⟨rfl, r, I2, J0, rfl, lo, hm⟩
  · rcases hm with ⟨rfl, n, hm⟩ | ⟨rfl, n, hm⟩
    · exact Or.inl ⟨rfl, t107_17 (show WQ _ _ _ _ _ _ _ _ _ _ _ _ from Or.inr ⟨1, Or.inl rfl, rfl, hm⟩)⟩
    · exact Or.inr ⟨rfl, t107_21 (show WQ _ _ _ _ _ _ _ _ _ _ _ _ from Or.inr ⟨2, Or.inr rfl, rfl, hm⟩)⟩
theorem wq111 {p1 : Int32} {p2 : Int32} {p3 : Int32} (hK : LK L x) (hp : PR I0 L x 112 227 1 0 d e [.int p1, .int p2, .int p3] I J z l ex) : cal (d + 41) 111 [.ref x, .int p1, .int p2, .int p3, .ref (x + 281)] (L, I, J, z, l, ex) (kI (WQ I0 L x 227 e [.int p1, .int p2, .int p3] Int32.toInt64 z l ex) (fun _ _ => False)) := by
  refine e111 (t111_0 ?_)
  simp only [LK_ hK, true_and]
  refine kI_mono hp (fun r h2 hm => ?_) (fun q h2 hm => ?_)
  · obtain ⟨I2, J0, rfl, lo, hm⟩ := hm
    refine t111_10 ?_
    simp (disch := omega) only [LK_ hK, vpT, nI_clamp, true_and, kIi]
    exact Or.inl ⟨rfl, r, I2, J0, rfl, lo, hm⟩
  · rcases hm with ⟨rfl, n, hm⟩ | ⟨rfl, n, hm⟩
    · exact Or.inl ⟨rfl, t111_17 (show WQ _ _ _ _ _ _ _ _ _ _ _ _ from Or.inr ⟨1, Or.inl rfl, rfl, hm⟩)⟩
    · exact Or.inr ⟨rfl, t111_21 (show WQ _ _ _ _ _ _ _ _ _ _ _ _ from Or.inr ⟨2, Or.inr rfl, rfl, hm⟩)⟩
theorem wq113 {p1 : Int32} {p2 : Int32} (hK : LK L x) (hp : PR I0 L x 114 228 0 9 d e [.int p1, .int p2] I J z l ex) : cal (d + 41) 113 [.ref x, .int p1, .int p2, .ref (x + 281)] (L, I, J, z, l, ex) (kI (WQ I0 L x 228 e [.int p1, .int p2] Int32.toInt64 z l ex) (fun _ _ => False)) := by
  refine e113 (t113_0 ?_)
  simp only [LK_ hK, true_and]
  refine kI_mono hp (fun r h2 hm => ?_) (fun q h2 hm => ?_)
  · obtain ⟨I2, J0, rfl, lo, hm⟩ := hm
    refine t113_8 ?_
    simp (disch := omega) only [LK_ hK, vpT, nI_clamp, true_and, kIi]
    exact Or.inl ⟨rfl, r, I2, J0, rfl, lo, hm⟩
  · rcases hm with ⟨rfl, n, hm⟩ | ⟨rfl, n, hm⟩
    · exact ⟨rfl, t113_15 (show WQ _ _ _ _ _ _ _ _ _ _ _ _ from Or.inr ⟨1, Or.inl rfl, rfl, hm⟩)⟩
    · exact n9 n
theorem wq115 {p1 : Int32} {p2 : Int32} (hK : LK L x) (hp : PR I0 L x 116 263 1 0 d e [.int p1, .int p2] I J z l ex) : cal (d + 41) 115 [.ref x, .int p1, .int p2, .ref (x + 281)] (L, I, J, z, l, ex) (kI (WQ I0 L x 263 e [.int p1, .int p2] Int32.toInt64 z l ex) (fun _ _ => False)) := by
  refine e115 (t115_0 ?_)
  simp only [LK_ hK, true_and]
  refine kI_mono hp (fun r h2 hm => ?_) (fun q h2 hm => ?_)
  · obtain ⟨I2, J0, rfl, lo, hm⟩ := hm
    refine t115_8 ?_
    simp (disch := omega) only [LK_ hK, vpT, nI_clamp, true_and, kIi]
    exact Or.inl ⟨rfl, r, I2, J0, rfl, lo, hm⟩
  · rcases hm with ⟨rfl, n, hm⟩ | ⟨rfl, n, hm⟩
    · exact Or.inl ⟨rfl, t115_15 (show WQ _ _ _ _ _ _ _ _ _ _ _ _ from Or.inr ⟨1, Or.inl rfl, rfl, hm⟩)⟩
    · exact Or.inr ⟨rfl, t115_19 (show WQ _ _ _ _ _ _ _ _ _ _ _ _ from Or.inr ⟨2, Or.inr rfl, rfl, hm⟩)⟩
theorem wq117 {p1 : Int32} {p2 : Int32} (hK : LK L x) (hp : PR I0 L x 118 264 0 9 d e [.int p1, .int p2] I J z l ex) : cal (d + 41) 117 [.ref x, .int p1, .int p2, .ref (x + 281)] (L, I, J, z, l, ex) (kI (WQ I0 L x 264 e [.int p1, .int p2] Int32.toInt64 z l ex) (fun _ _ => False)) := by
  refine e117 (t117_0 ?_)
  simp only [LK_ hK, true_and]
  refine kI_mono hp (fun r h2 hm => ?_) (fun q h2 hm => ?_)
  · obtain ⟨I2, J0, rfl, lo, hm⟩ := hm
    refine t117_8 ?_
    simp (disch := omega) only [LK_ hK, vpT, nI_clamp, true_and, kIi]
    exact Or.inl ⟨rfl, r, I2, J0, rfl, lo, hm⟩
  · rcases hm with ⟨rfl, n, hm⟩ | ⟨rfl, n, hm⟩
    · exact ⟨rfl, t117_15 (show WQ _ _ _ _ _ _ _ _ _ _ _ _ from Or.inr ⟨1, Or.inl rfl, rfl, hm⟩)⟩
    · exact n9 n
theorem wq119 {p1 : Int32} (hK : LK L x) (hp : PR I0 L x 120 265 1 9 d e [.int p1] I J z l ex) : cal (d + 41) 119 [.ref x, .int p1, .ref (x + 281)] (L, I, J, z, l, ex) (kI (WQ I0 L x 265 e [.int p1] Int32.toInt64 z l ex) (fun _ _ => False)) := by
  refine e119 (t119_0 ?_)
  simp only [LK_ hK, true_and]
  refine kI_mono hp (fun r h2 hm => ?_) (fun q h2 hm => ?_)
  · obtain ⟨I2, J0, rfl, lo, hm⟩ := hm
    refine t119_7 ?_
    simp (disch := omega) only [LK_ hK, vpT, nI_clamp, true_and, kIi]
    exact Or.inl ⟨rfl, r, I2, J0, rfl, lo, hm⟩
  · rcases hm with ⟨rfl, n, hm⟩ | ⟨rfl, n, hm⟩
    · exact ⟨rfl, t119_13 (show WQ _ _ _ _ _ _ _ _ _ _ _ _ from Or.inr ⟨1, Or.inl rfl, rfl, hm⟩)⟩
    · exact n9 n
theorem wq122 {p1 : Int32} {p2 : Int32} (hK : LK L x) (hp : PR I0 L x 123 266 1 0 d e [.int p1, .int p2] I J z l ex) : cal (d + 41) 122 [.ref x, .int p1, .int p2, .ref (x + 281)] (L, I, J, z, l, ex) (kI (WQ I0 L x 266 e [.int p1, .int p2] Int32.toInt64 z l ex) (fun _ _ => False)) := by
  refine e122 (t122_0 ?_)
  simp only [LK_ hK, true_and]
  refine kI_mono hp (fun r h2 hm => ?_) (fun q h2 hm => ?_)
  · obtain ⟨I2, J0, rfl, lo, hm⟩ := hm
    refine t122_8 ?_
    simp (disch := omega) only [LK_ hK, vpT, nI_clamp, true_and, kIi]
    exact Or.inl ⟨rfl, r, I2, J0, rfl, lo, hm⟩
  · rcases hm with ⟨rfl, n, hm⟩ | ⟨rfl, n, hm⟩
    · exact Or.inl ⟨rfl, t122_15 (show WQ _ _ _ _ _ _ _ _ _ _ _ _ from Or.inr ⟨1, Or.inl rfl, rfl, hm⟩)⟩
    · exact Or.inr ⟨rfl, t122_19 (show WQ _ _ _ _ _ _ _ _ _ _ _ _ from Or.inr ⟨2, Or.inr rfl, rfl, hm⟩)⟩
theorem wq129 {p1 : Int32} {p2 : Int32} {p3 : Int32} {p4 : Int32} (hK : LK L x) (hp : PR I0 L x 130 269 0 1 d e [.int p1, .int p2, .int p3, .int p4] I J z l ex) : cal (d + 41) 129 [.ref x, .int p1, .int p2, .int p3, .int p4, .ref (x + 281)] (L, I, J, z, l, ex) (kI (WQ I0 L x 269 e [.int p1, .int p2, .int p3, .int p4] Int32.toInt64 z l ex) (fun _ _ => False)) := by
  refine e129 (t129_0 ?_)
  simp only [LK_ hK, true_and]
  refine kI_mono hp (fun r h2 hm => ?_) (fun q h2 hm => ?_)
  · obtain ⟨I2, J0, rfl, lo, hm⟩ := hm
    refine t129_12 ?_
    simp (disch := omega) only [LK_ hK, vpT, nI_clamp, true_and, kIi]
    exact Or.inl ⟨rfl, r, I2, J0, rfl, lo, hm⟩
  · rcases hm with ⟨rfl, n, hm⟩ | ⟨rfl, n, hm⟩
    · exact Or.inl ⟨rfl, t129_19 (show WQ _ _ _ _ _ _ _ _ _ _ _ _ from Or.inr ⟨1, Or.inl rfl, rfl, hm⟩)⟩
    · exact Or.inr ⟨rfl, t129_23 (show WQ _ _ _ _ _ _ _ _ _ _ _ _ from Or.inr ⟨2, Or.inr rfl, rfl, hm⟩)⟩
theorem wq140 {p1 : Int32} (hK : LK L x) (hp : PR I0 L x 141 229 0 9 d e [.int p1] I J z l ex) : cal (d + 41) 140 [.ref x, .int p1, .ref (x + 281)] (L, I, J, z, l, ex) (kI (WQ I0 L x 229 e [.int p1] Int32.toInt64 z l ex) (fun _ _ => False)) := by
  refine e140 (t140_0 ?_)
  simp only [LK_ hK, true_and]
  refine kI_mono hp (fun r h2 hm => ?_) (fun q h2 hm => ?_)
  · obtain ⟨I2, J0, rfl, lo, hm⟩ := hm
    refine t140_7 ?_
    simp (disch := omega) only [LK_ hK, vpT, nI_clamp, true_and, kIi]
    exact Or.inl ⟨rfl, r, I2, J0, rfl, lo, hm⟩
  · rcases hm with ⟨rfl, n, hm⟩ | ⟨rfl, n, hm⟩
    · exact ⟨rfl, t140_13 (show WQ _ _ _ _ _ _ _ _ _ _ _ _ from Or.inr ⟨1, Or.inl rfl, rfl, hm⟩)⟩
    · exact n9 n
theorem wq142 {p1 : Int32} {p2 : Int32} (hK : LK L x) (hp : PR I0 L x 143 234 0 1 d e [.int p1, .int p2] I J z l ex) : cal (d + 41) 142 [.ref x, .int p1, .int p2, .ref (x + 281)] (L, I, J, z, l, ex) (kI (WQ I0 L x 234 e [.int p1, .int p2] Int32.toInt64 z l ex) (fun _ _ => False)) := by
  refine e142 (t142_0 ?_)
  simp only [LK_ hK, true_and]
  refine kI_mono hp (fun r h2 hm => ?_) (fun q h2 hm => ?_)
  · obtain ⟨I2, J0, rfl, lo, hm⟩ := hm
    refine t142_8 ?_
    simp (disch := omega) only [LK_ hK, vpT, nI_clamp, true_and, kIi]
    exact Or.inl ⟨rfl, r, I2, J0, rfl, lo, hm⟩
  · rcases hm with ⟨rfl, n, hm⟩ | ⟨rfl, n, hm⟩
    · exact Or.inl ⟨rfl, t142_15 (show WQ _ _ _ _ _ _ _ _ _ _ _ _ from Or.inr ⟨1, Or.inl rfl, rfl, hm⟩)⟩
    · exact Or.inr ⟨rfl, t142_19 (show WQ _ _ _ _ _ _ _ _ _ _ _ _ from Or.inr ⟨2, Or.inr rfl, rfl, hm⟩)⟩
theorem wq144 {p1 : Int32} (hK : LK L x) (hp : PR I0 L x 145 236 0 9 d e [.int p1] I J z l ex) : cal (d + 41) 144 [.ref x, .int p1, .ref (x + 281)] (L, I, J, z, l, ex) (kI (WQ I0 L x 236 e [.int p1] Int32.toInt64 z l ex) (fun _ _ => False)) := by
  refine e144 (t144_0 ?_)
  simp only [LK_ hK, true_and]
  refine kI_mono hp (fun r h2 hm => ?_) (fun q h2 hm => ?_)
  · obtain ⟨I2, J0, rfl, lo, hm⟩ := hm
    refine t144_7 ?_
    simp (disch := omega) only [LK_ hK, vpT, nI_clamp, true_and, kIi]
    exact Or.inl ⟨rfl, r, I2, J0, rfl, lo, hm⟩
  · rcases hm with ⟨rfl, n, hm⟩ | ⟨rfl, n, hm⟩
    · exact ⟨rfl, t144_13 (show WQ _ _ _ _ _ _ _ _ _ _ _ _ from Or.inr ⟨1, Or.inl rfl, rfl, hm⟩)⟩
    · exact n9 n
theorem wq146 {p1 : Int32} (hK : LK L x) (hp : PR I0 L x 147 237 0 9 d e [.int p1] I J z l ex) : cal (d + 41) 146 [.ref x, .int p1, .ref (x + 281)] (L, I, J, z, l, ex) (kI (WQ I0 L x 237 e [.int p1] Int32.toInt64 z l ex) (fun _ _ => False)) := by
  refine e146 (t146_0 ?_)
  simp only [LK_ hK, true_and]
  refine kI_mono hp (fun r h2 hm => ?_) (fun q h2 hm => ?_)
  · obtain ⟨I2, J0, rfl, lo, hm⟩ := hm
    refine t146_7 ?_
    simp (disch := omega) only [LK_ hK, vpT, nI_clamp, true_and, kIi]
    exact Or.inl ⟨rfl, r, I2, J0, rfl, lo, hm⟩
  · rcases hm with ⟨rfl, n, hm⟩ | ⟨rfl, n, hm⟩
    · exact ⟨rfl, t146_13 (show WQ _ _ _ _ _ _ _ _ _ _ _ _ from Or.inr ⟨1, Or.inl rfl, rfl, hm⟩)⟩
    · exact n9 n
theorem wq148 {p1 : Int64} {p2 : Int32} (hK : LK L x) (hp : PR I0 L x 149 239 0 1 d e [.long p1, .int p2] I J z l ex) : cal (d + 41) 148 [.ref x, .long p1, .int p2, .ref (x + 281)] (L, I, J, z, l, ex) (kI (WQ I0 L x 239 e [.long p1, .int p2] Int32.toInt64 z l ex) (fun _ _ => False)) := by
  refine e148 (t148_0 ?_)
  simp only [LK_ hK, true_and]
  refine kI_mono hp (fun r h2 hm => ?_) (fun q h2 hm => ?_)
  · obtain ⟨I2, J0, rfl, lo, hm⟩ := hm
    refine t148_9 ?_
    simp (disch := omega) only [LK_ hK, vpT, nI_clamp, true_and, kIi]
    exact Or.inl ⟨rfl, r, I2, J0, rfl, lo, hm⟩
  · rcases hm with ⟨rfl, n, hm⟩ | ⟨rfl, n, hm⟩
    · exact Or.inl ⟨rfl, t148_16 (show WQ _ _ _ _ _ _ _ _ _ _ _ _ from Or.inr ⟨1, Or.inl rfl, rfl, hm⟩)⟩
    · exact Or.inr ⟨rfl, t148_20 (show WQ _ _ _ _ _ _ _ _ _ _ _ _ from Or.inr ⟨2, Or.inr rfl, rfl, hm⟩)⟩
theorem wq151 {p1 : Int64} (hK : LK L x) (hp : PR I0 L x 152 241 0 9 d e [.long p1] I J z l ex) : cal (d + 41) 151 [.ref x, .long p1, .ref (x + 281)] (L, I, J, z, l, ex) (kI (WQ I0 L x 241 e [.long p1] (fun r => if r = nI 0 then 0 else 1) z l ex) (fun _ _ => False)) := by
  refine e151 (t151_0 ?_)
  simp only [LK_ hK, true_and]
  refine kI_mono hp (fun r h2 hm => ?_) (fun q h2 hm => ?_)
  · obtain ⟨I2, J0, rfl, lo, hm⟩ := hm
    refine t151_7 ?_
    by_cases w : r = nI 0
    · simp (disch := omega) only [LK_ hK, vpT, nI_clamp, true_and, kIi, w, true_implies, not_true_eq_false, false_implies, and_true]
      exact Or.inl ⟨rfl, r, I2, J0, by simp only [if_pos w], lo, hm⟩
    · simp (disch := omega) only [LK_ hK, vpT, nI_clamp, true_and, kIi, w, true_implies, not_false_eq_true, false_implies, and_true]
      exact Or.inl ⟨rfl, r, I2, J0, by simp only [if_neg w], lo, hm⟩
  · rcases hm with ⟨rfl, n, hm⟩ | ⟨rfl, n, hm⟩
    · exact ⟨rfl, t151_21 (show WQ _ _ _ _ _ _ _ _ _ _ _ _ from Or.inr ⟨1, Or.inl rfl, rfl, hm⟩)⟩
    · exact n9 n
theorem wq153 {p1 : Int32} (hK : LK L x) (hp : PR I0 L x 154 242 1 9 d e [.int p1] I J z l ex) : cal (d + 41) 153 [.ref x, .int p1, .ref (x + 281)] (L, I, J, z, l, ex) (kI (WQ I0 L x 242 e [.int p1] Int32.toInt64 z l ex) (fun _ _ => False)) := by
  refine e153 (t153_0 ?_)
  simp only [LK_ hK, true_and]
  refine kI_mono hp (fun r h2 hm => ?_) (fun q h2 hm => ?_)
  · obtain ⟨I2, J0, rfl, lo, hm⟩ := hm
    refine t153_7 ?_
    simp (disch := omega) only [LK_ hK, vpT, nI_clamp, true_and, kIi]
    exact Or.inl ⟨rfl, r, I2, J0, rfl, lo, hm⟩
  · rcases hm with ⟨rfl, n, hm⟩ | ⟨rfl, n, hm⟩
    · exact ⟨rfl, t153_13 (show WQ _ _ _ _ _ _ _ _ _ _ _ _ from Or.inr ⟨1, Or.inl rfl, rfl, hm⟩)⟩
    · exact n9 n
theorem wq155 {p1 : Int32} {p2 : Int32} (hK : LK L x) (hp : PR I0 L x 156 249 1 0 d e [.int p1, .int p2] I J z l ex) : cal (d + 41) 155 [.ref x, .int p1, .int p2, .ref (x + 281)] (L, I, J, z, l, ex) (kI (WQ I0 L x 249 e [.int p1, .int p2] Int32.toInt64 z l ex) (fun _ _ => False)) := by
  refine e155 (t155_0 ?_)
  simp only [LK_ hK, true_and]
  refine kI_mono hp (fun r h2 hm => ?_) (fun q h2 hm => ?_)
  · obtain ⟨I2, J0, rfl, lo, hm⟩ := hm
    refine t155_8 ?_
    simp (disch := omega) only [LK_ hK, vpT, nI_clamp, true_and, kIi]
    exact Or.inl ⟨rfl, r, I2, J0, rfl, lo, hm⟩
  · rcases hm with ⟨rfl, n, hm⟩ | ⟨rfl, n, hm⟩
    · exact Or.inl ⟨rfl, t155_15 (show WQ _ _ _ _ _ _ _ _ _ _ _ _ from Or.inr ⟨1, Or.inl rfl, rfl, hm⟩)⟩
    · exact Or.inr ⟨rfl, t155_19 (show WQ _ _ _ _ _ _ _ _ _ _ _ _ from Or.inr ⟨2, Or.inr rfl, rfl, hm⟩)⟩
theorem wq157 {p1 : Int32} (hK : LK L x) (hp : PR I0 L x 158 251 0 9 d e [.int p1] I J z l ex) : cal (d + 41) 157 [.ref x, .int p1, .ref (x + 281)] (L, I, J, z, l, ex) (kI (WQ I0 L x 251 e [.int p1] Int32.toInt64 z l ex) (fun _ _ => False)) := by
  refine e157 (t157_0 ?_)
  simp only [LK_ hK, true_and]
  refine kI_mono hp (fun r h2 hm => ?_) (fun q h2 hm => ?_)
  · obtain ⟨I2, J0, rfl, lo, hm⟩ := hm
    refine t157_7 ?_
    simp (disch := omega) only [LK_ hK, vpT, nI_clamp, true_and, kIi]
    exact Or.inl ⟨rfl, r, I2, J0, rfl, lo, hm⟩
  · rcases hm with ⟨rfl, n, hm⟩ | ⟨rfl, n, hm⟩
    · exact ⟨rfl, t157_13 (show WQ _ _ _ _ _ _ _ _ _ _ _ _ from Or.inr ⟨1, Or.inl rfl, rfl, hm⟩)⟩
    · exact n9 n
theorem wq159 {p1 : Int32} {p2 : Int32} (hK : LK L x) (hp : PR I0 L x 160 254 1 9 d e [.int p1, .int p2] I J z l ex) : cal (d + 41) 159 [.ref x, .int p1, .int p2, .ref (x + 281)] (L, I, J, z, l, ex) (kI (WQ I0 L x 254 e [.int p1, .int p2] Int32.toInt64 z l ex) (fun _ _ => False)) := by
  refine e159 (t159_0 ?_)
  simp only [LK_ hK, true_and]
  refine kI_mono hp (fun r h2 hm => ?_) (fun q h2 hm => ?_)
  · obtain ⟨I2, J0, rfl, lo, hm⟩ := hm
    refine t159_8 ?_
    simp (disch := omega) only [LK_ hK, vpT, nI_clamp, true_and, kIi]
    exact Or.inl ⟨rfl, r, I2, J0, rfl, lo, hm⟩
  · rcases hm with ⟨rfl, n, hm⟩ | ⟨rfl, n, hm⟩
    · exact ⟨rfl, t159_15 (show WQ _ _ _ _ _ _ _ _ _ _ _ _ from Or.inr ⟨1, Or.inl rfl, rfl, hm⟩)⟩
    · exact n9 n
theorem wq161 {p1 : Int32} {p2 : Int32} (hK : LK L x) (hp : PR I0 L x 162 255 1 0 d e [.int p1, .int p2] I J z l ex) : cal (d + 41) 161 [.ref x, .int p1, .int p2, .ref (x + 281)] (L, I, J, z, l, ex) (kI (WQ I0 L x 255 e [.int p1, .int p2] Int32.toInt64 z l ex) (fun _ _ => False)) := by
  refine e161 (t161_0 ?_)
  simp only [LK_ hK, true_and]
  refine kI_mono hp (fun r h2 hm => ?_) (fun q h2 hm => ?_)
  · obtain ⟨I2, J0, rfl, lo, hm⟩ := hm
    refine t161_8 ?_
    simp (disch := omega) only [LK_ hK, vpT, nI_clamp, true_and, kIi]
    exact Or.inl ⟨rfl, r, I2, J0, rfl, lo, hm⟩
  · rcases hm with ⟨rfl, n, hm⟩ | ⟨rfl, n, hm⟩
    · exact Or.inl ⟨rfl, t161_15 (show WQ _ _ _ _ _ _ _ _ _ _ _ _ from Or.inr ⟨1, Or.inl rfl, rfl, hm⟩)⟩
    · exact Or.inr ⟨rfl, t161_19 (show WQ _ _ _ _ _ _ _ _ _ _ _ _ from Or.inr ⟨2, Or.inr rfl, rfl, hm⟩)⟩
theorem wq166 {p1 : Int32} {p2 : Int32} (hK : LK L x) (hp : PR I0 L x 167 258 1 9 d e [.int p1, .int p2] I J z l ex) : cal (d + 41) 166 [.ref x, .int p1, .int p2, .ref (x + 281)] (L, I, J, z, l, ex) (kI (WQ I0 L x 258 e [.int p1, .int p2] Int32.toInt64 z l ex) (fun _ _ => False)) := by
  refine e166 (t166_0 ?_)
  simp only [LK_ hK, true_and]
  refine kI_mono hp (fun r h2 hm => ?_) (fun q h2 hm => ?_)
  · obtain ⟨I2, J0, rfl, lo, hm⟩ := hm
    refine t166_8 ?_
    simp (disch := omega) only [LK_ hK, vpT, nI_clamp, true_and, kIi]
    exact Or.inl ⟨rfl, r, I2, J0, rfl, lo, hm⟩
  · rcases hm with ⟨rfl, n, hm⟩ | ⟨rfl, n, hm⟩
    · exact ⟨rfl, t166_15 (show WQ _ _ _ _ _ _ _ _ _ _ _ _ from Or.inr ⟨1, Or.inl rfl, rfl, hm⟩)⟩
    · exact n9 n
end WRAPS
