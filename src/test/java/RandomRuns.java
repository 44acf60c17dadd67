import java.lang.reflect.Method;
import java.util.ArrayList;
import java.util.Arrays;
import java.util.List;
import java.util.Random;

/** Runs of drawn calls (the same ones each time), each answered by BallotBook and by Model. */
public final class RandomRuns {
    /** Each name as often as its weight says. */
    private static final String[] WEIGHTS = ("force 3,station 2,paper 5,row 4,runs 4,moved 2,told 2,hour 14,move 6,"
            + "lend 6,spoil 4,find 4,send 5,tell 6,recount 1,undo 3,way 6,balance 3,slips 4,must 2,free 2,leaves 3,"
            + "ahead 4,dry 4,served 3,more 4,crowds 4,rests 4,pence 4,note 3,ruled 3,look 3,seed 2,crowded 4,"
            + "count 5,image 2,back 1,end 1,feed 1,election 1,rule 1").split(",");

    private final Random random;
    private final BallotBook book = new BallotBook();
    private final Model model = new Model();
    private final List<String> log = new ArrayList<>();
    private int calls;
    private int wrong;

    private RandomRuns(long seed) {
        random = new Random(seed);
    }

    public static void main(String[] args) throws Exception {
        int runs = Integer.getInteger("runs", 600);
        int wrong = 0;
        for (int seed = 0; seed < runs && wrong == 0; seed++) {
            wrong += new RandomRuns(seed).run();
        }
        System.out.println(wrong == 0 ? runs + " drawn runs are answered alike" : "drawn runs differ");
        if (wrong != 0) {
            System.exit(1);
        }
    }

    private int run() throws Exception {
        boolean shuttles = random.nextInt(5) == 0;
        if (random.nextInt(10) != 0) {
            for (int i = 0; i < 8 && book.count(1) == 0; i++) {
                tell(electionText(), "election");
            }
        }
        for (int i = random.nextInt(5); i > 0; i--) {
            tell(ruleText(), "rule");
        }
        while (calls < 470 && wrong == 0) {
            String name = shuttles && random.nextBoolean() ? pick("lend", "move", "way", "row", "find") : drawName();
            if (name.equals("election") || name.equals("rule")) {
                if (random.nextInt(3) == 0) {
                    tell(name.equals("rule") ? ruleText() : electionText(), name);
                }
            } else if (name.equals("tell") && random.nextInt(3) == 0) {
                tellAll();
            } else {
                call(name, arguments(name));
            }
        }
        return wrong;
    }

    private String drawName() {
        int all = 0;
        for (String one : WEIGHTS) {
            all += Integer.parseInt(one.split(" ")[1]);
        }
        int at = random.nextInt(all);
        for (String one : WEIGHTS) {
            at -= Integer.parseInt(one.split(" ")[1]);
            if (at < 0) {
                return one.split(" ")[0];
            }
        }
        throw new IllegalStateException();
    }

    private int call(String name, int... args) throws Exception {
        calls++;
        Class<?>[] types = new Class<?>[args.length];
        Object[] boxed = new Object[args.length];
        for (int i = 0; i < args.length; i++) {
            types[i] = int.class;
            boxed[i] = args[i];
        }
        Method asked = BallotBook.class.getMethod(name, types);
        Method due = Model.class.getDeclaredMethod(name, types);
        Object want = due.invoke(model, boxed);
        Object got = asked.invoke(book, boxed);
        log.add(name + Arrays.toString(args) + " " + got);
        if (!got.equals(want)) {
            wrong++;
            log.forEach(System.out::println);
            System.out.println("due is " + want);
        }
        return (Integer) got;
    }

    /** A text comes in twenties, with noughts behind, which are cut off. */
    private void tell(String text, String as) throws Exception {
        call("end", 0);
        for (int i = 0; i < text.length(); i += 20) {
            int[] words = new int[5];
            for (int k = 0; k < 20; k++) {
                int sign = i + k < text.length() ? text.charAt(i + k) : 0;
                words[k / 4] = words[k / 4] << 8 | sign;
            }
            call("feed", words);
        }
        log.add("\"" + text + "\"");
        call("end", Math.min(400, text.length()));
        call(as);
    }

    private void tellAll() throws Exception {
        int stations = book.count(1);
        for (int s = 0; s < stations; s++) {
            if (random.nextInt(5) == 0) {
                call("recount", s);
            }
            for (int what = 0; what < 3; what++) {
                int off = random.nextInt(3) == 0 ? random.nextInt(25) - 12 : random.nextInt(3) - 1;
                call("tell", s, what, book.station(s, what) + off * random.nextInt(2));
            }
        }
        call("slips", random.nextInt(3));
        call("slips", 3 + random.nextInt(5));
        call("must");
        call("free");
        call("leaves", random.nextInt(5));
    }

    private int wild() {
        int[] some = {-2, -1, 0, 1, 5, 60, 61, 99, 100, 1000, Integer.MAX_VALUE, Integer.MIN_VALUE};
        return some[random.nextInt(some.length)];
    }

    private int upTo(int n) {
        return random.nextInt(14) == 0 ? wild() : random.nextInt(n + 1);
    }

    private int aStation() {
        return upTo(Math.max(0, book.count(1) - 1));
    }

    private int aPaper() {
        return upTo(Math.max(0, book.count(0) - 1));
    }

    private int few() {
        return random.nextInt(3) == 0 ? upTo(10) : 1 + random.nextInt(3);
    }

    private int[] arguments(String name) {
        switch (name) {
            case "force": return new int[] {random.nextInt(7) - 1};
            case "station": return new int[] {aStation(), upTo(6)};
            case "paper": return new int[] {aPaper(), upTo(3)};
            case "row": return new int[] {aStation(), 1 + upTo(1), upTo(random.nextBoolean() ? 3 : 15)};
            case "runs": return new int[] {aStation(), random.nextInt(4) - 1, upTo(2)};
            case "moved": return new int[] {aStation(), aStation()};
            case "told": return new int[] {aStation(), upTo(3)};
            case "move": case "lend": case "send": return new int[] {aStation(), aStation(), few()};
            case "spoil": case "find": return new int[] {aPaper()};
            case "tell": return new int[] {aStation(), upTo(2), upTo(random.nextBoolean() ? 15 : 60)};
            case "recount": case "balance": case "leaves": case "dry": return new int[] {aStation()};
            case "way": return new int[] {aPaper(), upTo(random.nextBoolean() ? 2 : 14)};
            case "slips": return new int[] {upTo(8)};
            case "ahead": return new int[] {aStation(), upTo(random.nextBoolean() ? 10 : 101), upTo(4)};
            case "more": return new int[] {aStation(), upTo(random.nextBoolean() ? 10 : 61), upTo(1)};
            case "crowds": return new int[] {aStation(), upTo(1)};
            case "rests": return new int[] {aStation(), aStation(), upTo(21), upTo(2)};
            case "pence": return new int[] {upTo(random.nextBoolean() ? 30 : 10000), aStation()};
            case "note": return noteArguments();
            case "ruled": return new int[] {upTo(2)};
            case "look": return new int[] {upTo(random.nextBoolean() ? 12 : 61), upTo(1)};
            case "seed": return new int[] {random.nextBoolean() ? random.nextInt() : upTo(100)};
            case "crowded": return new int[] {upTo(11), upTo(random.nextBoolean() ? 12 : 61), upTo(101), upTo(1)};
            case "count": return new int[] {upTo(14)};
            case "image": case "back": return new int[] {upTo(4)};
            case "end": return new int[] {upTo(400)};
            case "feed": return new int[] {random.nextInt(), wild(), random.nextInt(), random.nextInt(), -1};
            default: return new int[0];
        }
    }

    /** Mostly what is so by one of the rules, so that some of them stay. */
    private int[] noteArguments() {
        if (random.nextInt(6) == 0) {
            return new int[] {-1, wild(), wild()};
        }
        if (random.nextInt(3) == 0) {
            return new int[] {upTo(60), aStation(), upTo(60)};
        }
        int n = random.nextInt(20);
        int s = Math.max(0, Math.min(4, aStation()));
        return new int[] {n, s, book.count(4) == 0 && book.count(1) > s ? book.ahead(s, n + 1, 1) : upTo(3)};
    }

    private String blanks() {
        return random.nextInt(4) == 0 ? "  ".substring(random.nextInt(3)) : "";
    }

    private String pick(String... from) {
        return from[random.nextInt(from.length)];
    }

    private String electionText() {
        int printed = random.nextInt(12) == 0 ? random.nextInt(63) : 10 + random.nextInt(51);
        StringBuilder text = new StringBuilder(blanks() + "papers " + printed);
        int from = 0;
        int told = 0;
        int clauses = random.nextInt(25) == 0 ? 45 : 2 + random.nextInt(14);
        for (int i = 0; i < clauses; i++) {
            text.append(blanks()).append(';').append(blanks());
            int kind = random.nextInt(40);
            if (kind == 0) {
                text.append(pick("papers 3", "stations 1 2", "station 3", "voters 0", "", "voters 0 000061",
                        "spoiled", "papers", "station 0 59", "station 5 4"));
            } else if (kind < 16 && (told < 5 || random.nextInt(12) == 0)) {
                int first = from + (random.nextBoolean() ? 0 : random.nextInt(3));
                int last = first + random.nextInt(random.nextInt(4) == 0 ? 20 : 9);
                if (last < printed || random.nextInt(15) == 0) {
                    text.append("station").append(random.nextBoolean() ? " " : "").append(first).append(' ')
                            .append(last);
                    from = last + 1;
                    told++;
                } else {
                    text.append("spoiled ").append(random.nextInt(Math.max(1, from)));
                }
            } else if (kind < 30 && told > 0) {
                text.append("voters ").append(random.nextInt(told + (random.nextInt(30) == 0 ? 1 : 0))).append(' ')
                        .append(random.nextInt(random.nextInt(4) == 0 ? 62 : 12));
            } else if (told > 0) {
                text.append("spoiled ").append(random.nextInt(Math.max(1, from)));
            } else {
                text.append("station ").append(random.nextInt(3)).append(' ').append(from = 3 + random.nextInt(5));
                from++;
                told++;
            }
        }
        return spoiledText(text.toString());
    }

    /** Now and then one sign is another one, is left out, or comes twice. */
    private String spoiledText(String text) {
        if (random.nextInt(6) != 0 || text.isEmpty()) {
            return text;
        }
        int at = random.nextInt(text.length());
        String by = random.nextBoolean() ? "" : String.valueOf((char) (random.nextBoolean() ? random.nextInt(256)
                : " ;09az[]<=>+-*/%".charAt(random.nextInt(16))));
        return text.substring(0, at) + by + text.substring(at + random.nextInt(2));
    }

    private String ruleText() {
        StringBuilder text = new StringBuilder();
        int clauses = random.nextInt(20) == 0 ? 14 : 1 + random.nextInt(4);
        for (int i = 0; i < clauses; i++) {
            text.append(i == 0 ? "" : ";").append(blanks()).append("serve ")
                    .append(clauses > 12 ? "1" : sumText(random.nextInt(30) == 0 ? 45 : 5));
            if (random.nextInt(3) != 0 && clauses <= 12) {
                text.append(" if ").append(testText(random.nextInt(20) == 0 ? 13 : 3));
            }
        }
        return spoiledText(text.toString());
    }

    private String sumText(int most) {
        StringBuilder text = new StringBuilder(valueText());
        for (int i = random.nextInt(most); i > 0; i--) {
            text.append(blanks()).append(pick("+", "-", "*", "/", "%", "-", "+")).append(blanks())
                    .append(valueText());
        }
        return text.toString();
    }

    private String valueText() {
        if (random.nextInt(60) == 0) {
            return pick("123456", "foo", "if", "not", "99999", "");
        }
        return random.nextInt(3) == 0 ? String.valueOf(random.nextInt(random.nextInt(5) == 0 ? 99999 : 10))
                : pick("station", "waiting", "stock", "box", "spoiled", "next", "runs", "crowd", "left", "hour");
    }

    private String testText(int depth) {
        int kind = random.nextInt(depth > 5 ? 3 : 8);
        if (depth <= 0 || kind > 4) {
            return sumText(2) + blanks() + pick("<", "<=", "=", ">=", ">") + blanks() + sumText(2);
        }
        switch (kind) {
            case 0: return "not " + testText(depth - 1);
            case 1: return "[" + blanks() + testText(depth - 1) + blanks() + "]";
            case 2: return "[" + testText(depth - 1) + "]" + blanks();
            case 3: return testText(depth - 1) + " and " + testText(depth - 1);
            default: return testText(depth - 1) + " or " + testText(depth - 1);
        }
    }
}
