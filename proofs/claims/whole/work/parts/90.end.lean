/-! end -/
theorem gn_nil : True := trivial
