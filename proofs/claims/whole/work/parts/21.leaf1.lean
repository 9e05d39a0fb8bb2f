theorem mLfs {y : Nat} (h : y < 328) : mLf y := sorry
