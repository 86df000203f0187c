/-! PURE: Long.bitCount: open -/
theorem bitCount_ok {x : Int64} {post : Int32 → Prop} (hp : post (nI (cnt (bt64 x) 64))) : wp_J13_bitCount_95d88 x post := sorry
