section
theorem tm_zz : True := trivial
end
