import java.util.Random;

/** Random texts of hosts, sound or spoilt. */
final class AnyText {
    private final Random random;

    AnyText(Random random) {
        this.random = random;
    }

    int between(int least, int greatest) {
        return least + random.nextInt(greatest - least + 1);
    }

    int oneOf(int... any) {
        return any[random.nextInt(any.length)];
    }

    private String gap() {
        return random.nextInt(20) == 0 ? " \n " : " ";
    }

    String any() {
        int limit = oneOf(1, 2, 5, 9, 20, 40, 100, between(1, 999));
        int background = random.nextInt(3) == 0 ? random.nextInt(limit) : random.nextInt(1 + limit / 4);
        if (background >= limit) {
            background = limit - 1;
        }
        StringBuilder text = new StringBuilder("host").append(gap());
        text.append("limit ").append(limit).append(gap()).append("background ").append(background);
        text.append(" age ").append(oneOf(1, 2, 5, 17, between(1, 999)));
        text.append(" pause ").append(oneOf(1, 3, 9, between(1, 999)));
        text.append(" window ").append(oneOf(1, 2, 5, 10, between(1, 99)));
        text.append(" chunk ").append(oneOf(1, 2, 5, between(1, 99)));
        text.append(" queue ").append(oneOf(1, 2, 6, between(1, 99))).append(";");
        int devices = oneOf(0, 1, 1, 2, 2, 2, 3, 3, 4, 4);
        for (int i = 0; i < devices; i++) {
            text.append("device speed ").append(oneOf(0, 50, 100, 230, between(0, 999))).append(";");
        }
        int files = devices == 0 ? 0 : oneOf(0, 1, 2, 3, 3, 4, 5, 8, 12);
        for (int i = 0; i < files; i++) {
            text.append("file on ").append(random.nextInt(devices)).append(gap()).append(";");
        }
        int writers = files == 0 ? 0 : oneOf(0, 1, 2, 2, 3, 4, 6);
        for (int i = 0; i < writers; i++) {
            text.append("writer to ").append(random.nextInt(files));
            text.append(" wants ").append(oneOf(0, 1, 2, 5, between(0, 99))).append(";");
        }
        for (int i = random.nextInt(4); i > 0; i--) {
            boolean wants = random.nextBoolean();
            String law = (wants ? "wants" : "speed") + gap() + ":" + sum(wants, oneOf(1, 2, 3)) + ";";
            if (text.length() + law.length() <= 900) {
                text.append(law);
            }
        }
        return text.toString();
    }

    private String sum(boolean wants, int left) {
        StringBuilder text = new StringBuilder(term(wants, left));
        for (int i = oneOf(0, 0, 1, 2); i > 0; i--) {
            text.append(random.nextBoolean() ? "+" : " - ").append(term(wants, left));
        }
        return text.toString();
    }

    private String term(boolean wants, int left) {
        StringBuilder text = new StringBuilder(atom(wants, left));
        for (int i = oneOf(0, 0, 0, 1, 2); i > 0; i--) {
            text.append("*").append(gap()).append(atom(wants, left));
        }
        return text.toString();
    }

    private String atom(boolean wants, int left) {
        int sort = random.nextInt(left > 0 ? 9 : 6);
        switch (sort) {
            case 0:
                return " time ";
            case 1:
            case 2:
                return " told ";
            case 3:
                return " device ";
            case 4:
                return wants ? " writer " : " 7";
            case 5:
                return "" + oneOf(0, 1, 2, 100, between(0, 999));
            case 6:
                return "(" + sum(wants, left - 1) + ")";
            default:
                return " if " + truth(wants, left - 1) + " then " + sum(wants, left - 1) + " else "
                        + sum(wants, left - 1) + " end ";
        }
    }

    private String truth(boolean wants, int left) {
        StringBuilder text = new StringBuilder(unit(wants, left));
        for (int i = oneOf(0, 0, 1, 2); i > 0; i--) {
            text.append(random.nextBoolean() ? " or " : " and ").append(unit(wants, left));
        }
        return text.toString();
    }

    private String unit(boolean wants, int left) {
        int sort = left > 0 ? random.nextInt(5) : 4;
        if (sort == 0) {
            return "not " + unit(wants, left - 1);
        }
        if (sort == 1) {
            return "[" + truth(wants, left - 1) + "]";
        }
        return sum(wants, left - 1) + (char) oneOf('=', '<', '>') + sum(wants, left - 1);
    }

    String spoilt(String text) {
        String[] pieces = {";", ":", "+", "-", "*", "(", ")", "[", "]", "=", "<", ">", " ", "\n", "\t", "A",
            "1000", "7", "host", "limit", "device", "speed", "file", "on", "writer", "to", "wants", "if", "then",
            "else", "end", "not", "and", "or", "time", "told", "\u00e9", "\u0000", "device speed 5;", "(((((((",
            "file on 4;", "file on 0;file on 0;file on 0;", "writer to 12 wants 1;", "wants 100", "limit 0",
            "queue 100", "wants:[not[not[(1)", ";speed:told*(2+3)", "not not not not not not not"};
        StringBuilder b = new StringBuilder(text);
        for (int i = between(1, 2); i > 0 && b.length() > 0; i--) {
            int at = random.nextInt(b.length());
            int cut = Math.min(b.length(), at + oneOf(0, 0, 1, 1, 4, 30));
            String piece = random.nextInt(3) == 0 ? "" : pieces[random.nextInt(pieces.length)];
            b.replace(at, cut, piece);
        }
        if (random.nextInt(6) == 0) {
            b.setLength(random.nextInt(b.length() + 1));
        }
        return b.length() > 900 ? b.substring(0, 900) : b.toString();
    }
}
