section
/-! AM: the last part -/
theorem lk_end : True := trivial
end
