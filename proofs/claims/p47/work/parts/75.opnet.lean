/-! ===== net ===== -/
section ON
variable {T : Nat} {m M : lt_m}
theorem sp_m21 {e : Nat} : (-21 : Int32) - nI e = -21 - nI e := rfl
end ON
