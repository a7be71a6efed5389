import java.util.Random;

/** Draws texts of the three sorts, and spoils them. */
final class TextMaker {
    private static final String SIGNS = "jhtvsclwgpea;y:?|&!()[]=<>+-*/i0123459 kodz";

    private TextMaker() {
    }

    static String text(Random random, int sort) {
        for (int i = 0; i < 1000; i++) {
            String text = sort == 0 ? kitchen(random) : sort == 1 ? law(random) : plan(random);
            if (text.length() <= 200) {
                return text;
            }
        }
        return "";
    }

    static String spoilt(Random random, String text) {
        StringBuilder spoilt = new StringBuilder(text);
        for (int i = 1 + random.nextInt(2); i > 0; i--) {
            int at = random.nextInt(spoilt.length() + 1);
            char sign = SIGNS.charAt(random.nextInt(SIGNS.length()));
            switch (random.nextInt(4)) {
                case 0 -> spoilt.setLength(at);
                case 1 -> {
                    if (spoilt.length() < 200) {
                        spoilt.insert(at, sign);
                    }
                }
                case 2 -> {
                    if (at < spoilt.length()) {
                        spoilt.deleteCharAt(at);
                    }
                }
                default -> {
                    if (at < spoilt.length()) {
                        spoilt.setCharAt(at, sign);
                    }
                }
            }
        }
        return spoilt.toString();
    }

    private static String blank(Random random) {
        return random.nextInt(30) == 0 ? " " : "";
    }

    private static String kitchen(Random random) {
        StringBuilder text = new StringBuilder();
        int jars = 1 + random.nextInt(random.nextInt(4) + 1);
        int hands = 1 + random.nextInt(random.nextInt(6) + 1);
        int tools = random.nextInt(random.nextInt(5) + 1);
        while (jars + hands + tools > 0) {
            int kind = random.nextInt(3);
            if (kind == 0 && jars-- > 0) {
                clause(random, text, 'j', "vsclwg", 90, 60, 9, 1, 9, 99);
            } else if (kind == 1 && hands-- > 0) {
                clause(random, text, 'h', "pswte", 99, 9, 9, 9, 9);
            } else if (kind == 2 && tools-- > 0) {
                clause(random, text, 't', "ac", 60, 99);
            }
            jars = Math.max(0, jars);
            hands = Math.max(0, hands);
            tools = Math.max(0, tools);
        }
        return text.toString();
    }

    private static void clause(Random random, StringBuilder text, char kind, String letters, int... most) {
        if (text.length() > 0) {
            text.append(';');
        }
        text.append(blank(random)).append(kind);
        int from = random.nextInt(letters.length());
        for (int i = 0; i < letters.length(); i++) {
            int letter = (from + i) % letters.length();
            if (random.nextInt(5) < 2) {
                int value = Math.max("wgs".indexOf(letters.charAt(letter)) >= 0 ? 1 : 0, random.nextInt(most[letter] + 1));
                text.append(blank(random)).append(letters.charAt(letter)).append(blank(random));
                text.append(value < 10 && random.nextInt(8) == 0 ? "0" : "").append(value);
            }
        }
    }

    private static String law(Random random) {
        StringBuilder text = new StringBuilder();
        for (int i = random.nextInt(3); i >= 0; i--) {
            text.append(blank(random)).append("y:");
            if (random.nextInt(3) > 0) {
                condition(random, text, 0);
                text.append('?');
            }
            sum(random, text, 0);
            text.append(i > 0 ? ";" : "");
        }
        return text.toString();
    }

    private static void condition(Random random, StringBuilder text, int depth) {
        unit(random, text, depth);
        while (random.nextInt(3) == 0) {
            text.append(random.nextBoolean() ? '|' : '&').append(blank(random));
            unit(random, text, depth);
        }
    }

    private static void unit(Random random, StringBuilder text, int depth) {
        int kind = depth < 6 ? random.nextInt(6) : 5;
        if (kind == 0) {
            text.append('!').append(blank(random));
            unit(random, text, depth + 1);
        } else if (kind == 1) {
            text.append('(');
            condition(random, text, depth + 1);
            text.append(')').append(blank(random));
        } else {
            sum(random, text, depth);
            text.append("=<>".charAt(random.nextInt(3))).append(blank(random));
            sum(random, text, depth);
        }
    }

    private static void sum(Random random, StringBuilder text, int depth) {
        atom(random, text, depth);
        while (random.nextInt(2) == 0) {
            text.append("+-*/".charAt(random.nextInt(4))).append(blank(random));
            atom(random, text, depth);
        }
    }

    private static void atom(Random random, StringBuilder text, int depth) {
        int kind = random.nextInt(depth < 6 ? 8 : 6);
        if (kind < 4) {
            text.append("ppswica".charAt(random.nextInt(7)));
        } else if (kind < 6) {
            text.append(random.nextInt(4) == 0 ? random.nextInt(10000) : random.nextInt(12));
        } else {
            text.append('[');
            sum(random, text, depth + 1);
            text.append(']');
        }
        text.append(blank(random));
    }

    private static String plan(Random random) {
        StringBuilder text = new StringBuilder();
        for (int i = random.nextInt(random.nextInt(16) + 1); i >= 0; i--) {
            int kind = random.nextInt(9);
            text.append(blank(random));
            if (kind < 5) {
                text.append("tkohw".charAt(kind));
            } else if (kind < 6) {
                text.append('d').append(blank(random)).append(random.nextInt(random.nextInt(10) + 1));
            } else {
                text.append('y').append(random.nextInt(random.nextInt(10) + 1)).append(blank(random));
                text.append(random.nextBoolean() ? 9 : random.nextInt(random.nextInt(9) + 1));
            }
            text.append(i > 0 ? ";" : "");
        }
        return text.toString();
    }
}
