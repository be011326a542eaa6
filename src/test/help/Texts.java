import java.util.Random;

/** Random lands, most of them without a fault, and ones spoiled somewhere. */
final class Texts {
    private static final String[] NAMES = {"who", "born", "been", "seen", "papers", "from", "to"};
    private static final String[] TOKENS = {"places", "road", "person", "lets", "takes", "days", "bridge", "flood",
        "at", "by", "or", "and", "not", "who", "born", "been", "seen", "papers", "from", "to", ";", ":", "+", "-",
        "*", "(", ")", "[", "]", "=", "<", ">", "0", "1", "2", "3", "5", "9", "10", "11", "20", "21", "99", "999",
        "007", "1000", "00000", "x", "roads", "A", "?", "\t", "!", "\u00e9", "\u0000", "", " ", "\n", "{", "/", "`"};

    private static final String[] MANY = {
        "road 0 to 1 days 1;".repeat(9), "person at 0;".repeat(5), "road 0 to 1 days 1 bridge bridge;".repeat(4),
        "lets:not not not [not (1) = 0 or not not not (0) = 1];", "lets:[[[[[[been=1 and not been=0]]]]]];",
        "takes:((((((1))))))*((((((2)))))) - (((((((3)))))));", "lets:not[not[not(0) = (((((papers) - 1)))))]];"};

    private final Random random;
    private int nested;

    Texts(Random random) {
        this.random = random;
    }

    private boolean oneIn(int n) {
        return random.nextInt(n) == 0;
    }

    private String blank() {
        return oneIn(9) ? "\n" : oneIn(9) ? "  " : " ";
    }

    private String maybeBlank() {
        return oneIn(2) ? "" : blank();
    }

    String atom() {
        if (nested < 6 && oneIn(8)) {
            nested++;
            String s = "(" + sum() + ")";
            nested--;
            return s;
        }
        if (oneIn(3)) {
            return Integer.toString(oneIn(6) ? random.nextInt(1000) : random.nextInt(4));
        }
        return NAMES[random.nextInt(NAMES.length)];
    }

    String sum() {
        StringBuilder s = new StringBuilder(atom());
        while (oneIn(3)) {
            s.append(maybeBlank()).append("+-*".charAt(random.nextInt(3))).append(maybeBlank()).append(atom());
        }
        return s.toString();
    }

    String unit() {
        if (nested < 6 && oneIn(6)) {
            nested++;
            String s = oneIn(2) ? "not " + unit() : "[" + truth() + maybeBlank() + "]";
            nested--;
            return s;
        }
        return sum() + maybeBlank() + "=<>".charAt(random.nextInt(3)) + maybeBlank() + sum();
    }

    String truth() {
        StringBuilder s = new StringBuilder(unit());
        while (oneIn(3)) {
            s.append(oneIn(2) ? " and " : " or ").append(unit());
        }
        return s.toString();
    }

    private String letsLaw() {
        switch (random.nextInt(6)) {
            case 0:
                return "lets : been = 1;";
            case 1:
                return "lets : papers > " + random.nextInt(3) + " or been = 1;";
            case 2:
                return "lets : seen < " + (1 + random.nextInt(6)) + ";";
            default:
                return "lets :" + truth() + ";";
        }
    }

    private String takesLaw() {
        return oneIn(2) ? "takes : " + random.nextInt(3) + ";" : "takes :" + sum() + ";";
    }

    String land() {
        nested = 0;
        int places = 2 + random.nextInt(5);
        StringBuilder s = new StringBuilder("places " + places + maybeBlank() + ";");
        int roads = oneIn(2) ? random.nextInt(13) : 6 + random.nextInt(7);
        int bridges = 0;
        int longest = oneIn(3) ? 20 : oneIn(2) ? 4 : 2;
        for (int r = 0; r < roads; r++) {
            int a = random.nextInt(places);
            int b = (a + 1 + random.nextInt(places - 1)) % places;
            s.append("road ").append(a).append(" to ").append(b).append(" days ").append(1 + random.nextInt(longest));
            if (oneIn(2) && bridges < 4) {
                bridges++;
                s.append(blank()).append("bridge");
            }
            if (oneIn(2)) {
                s.append(" flood ").append(random.nextInt(oneIn(3) ? 11 : 4));
            }
            s.append(";");
            if (oneIn(12)) {
                s.append(maybeBlank()).append(oneIn(2) ? letsLaw() : takesLaw());
            }
        }
        int people = oneIn(8) ? 0 : 1 + random.nextInt(6);
        for (int p = 0; p < people; p++) {
            s.append("person at ").append(random.nextInt(places));
            while (oneIn(2)) {
                switch (random.nextInt(3)) {
                    case 0:
                        s.append(" born ").append(random.nextInt(places));
                        break;
                    case 1:
                        s.append(" papers ").append(random.nextInt(10));
                        break;
                    default:
                        s.append(" to ").append(random.nextInt(places)).append(" by ").append(random.nextInt(oneIn(2) ? 30 : 150));
                        break;
                }
            }
            s.append(";").append(maybeBlank());
        }
        if (oneIn(2)) {
            s.append(letsLaw());
        }
        if (oneIn(2)) {
            s.append(takesLaw());
        }
        return s.length() > 900 ? land() : s.toString();
    }

    String spoiled() {
        StringBuilder s = new StringBuilder(land());
        int times = 1 + random.nextInt(3);
        for (int i = 0; i < times; i++) {
            int at = random.nextInt(s.length() + 1);
            String token = oneIn(5) ? MANY[random.nextInt(MANY.length)] : TOKENS[random.nextInt(TOKENS.length)];
            int behind = Math.min(s.length(), at + random.nextInt(oneIn(3) ? 12 : 3));
            if (token.length() > 10) {
                at = Math.max(0, s.indexOf(";", at));
                at = Math.min(s.length(), at + 1);
                behind = at;
            }
            s.replace(at, behind, oneIn(2) ? " " + token + " " : token);
        }
        if (oneIn(6)) {
            s.setLength(random.nextInt(s.length() + 1));
        }
        return s.length() > 900 ? spoiled() : s.toString();
    }
}
