section PR01
end PR01
