import java.util.Arrays;

/** Ballot paper accounts: the document DOC.md tells, by numbered promises, what each call answers. */
public final class BallotBook {
    public static final int NONE = -1;

    private static final int NOT_SO = -2;
    private static final int NOT_ASKED = -3;

    private static final int STATIONS_MOST = 5;
    private static final int PAPERS_MOST = 60;
    private static final int VOTERS_MOST = 60;
    private static final int CROWD_MOST = 99;
    private static final int MANY_MOST = 9;
    private static final int HOUR_LAST = 999;
    private static final int RULES_MOST = 6;
    private static final int IMAGES_MOST = 4;
    private static final int NOTES_MOST = 10;
    private static final int NOTE_HOUR_LAST = 60;
    private static final int UNDO_MOST = 20;
    private static final int WAY_MOST = 12;
    private static final int TENS_MOST = 3;
    private static final int SENT_CHOICES = 4;
    private static final int X_MOST = 2147483647;
    private static final int ANY_NUMBER = 2147483647;

    private static final int STOCK = 0;
    private static final int BOX = 1;
    private static final int SPOILED = 2;
    private static final int WAITING = 3;
    private static final int KINDS = 3;

    private static final int FAULT_SIGN = 0;
    private static final int FAULT_NUMBER = 1;
    private static final int FAULT_DEEP = 2;
    private static final int FAULT_PARTS = 3;
    private static final int FAULT_CLAUSE = 4;

    private static final int TAPE_MOST = 400;
    private static final int DIGITS_MOST = 5;
    private static final int VALUE_MOST = 99999;
    private static final int ELECTION_CLAUSES_MOST = 40;
    private static final int RULE_CLAUSES_MOST = 12;
    private static final int PARTS_MOST = 60;
    private static final int DEPTH_MOST = 10;

    private static final String ELECTION_WORDS = "papers station voters spoiled";
    private static final int WORD_PAPERS = 0;
    private static final int WORD_STATION = 1;
    private static final int WORD_VOTERS = 2;
    private static final String RULE_WORDS = "station waiting stock box spoiled next runs crowd left hour";

    private static final int OP_BITS = 5;
    private static final int OP_MASK = 31;
    private static final int OP_NUMBER = 0;
    private static final int OP_WORD = 1;
    private static final int OP_ADD = 2;
    private static final int OP_SUBTRACT = 3;
    private static final int OP_MULTIPLY = 4;
    private static final int OP_DIVIDE = 5;
    private static final int OP_REST = 6;
    private static final int OP_BELOW = 7;
    private static final int OP_AT_MOST = 8;
    private static final int OP_SAME = 9;
    private static final int OP_AT_LEAST = 10;
    private static final int OP_ABOVE = 11;
    private static final int OP_AND = 12;
    private static final int OP_OR = 13;
    private static final int OP_NOT = 14;
    private static final int OP_TAKE = 15;
    private static final int OP_TAKE_IF = 16;

    private final Tape tape;
    private final ElectionReader electionReader;
    private final RuleReader ruleReader;
    private final Rule[] rules;
    private int ruleCount;
    private final Account now;
    private final Account[] images;
    private final History history;
    private final Tally trial;
    private final SlipSearch search;
    private final int[] oneGains;
    private final int[] otherGains;
    private final int[] boxesBehind;

    public BallotBook() {
        tape = new Tape();
        electionReader = new ElectionReader(tape);
        ruleReader = new RuleReader(tape);
        rules = new Rule[RULES_MOST];
        now = new Account();
        images = new Account[IMAGES_MOST];
        history = new History();
        trial = new Tally();
        search = new SlipSearch();
        oneGains = new int[SENT_CHOICES * SENT_CHOICES];
        otherGains = new int[SENT_CHOICES * SENT_CHOICES];
        boxesBehind = new int[(RULES_MOST + 1) * STATIONS_MOST];
    }

    // ---- the texts ----

    public int feed(int a, int b, int c, int d, int e) {
        if (tape.length + 20 > TAPE_MOST) {
            return NONE;
        }
        tape.addBytes(a);
        tape.addBytes(b);
        tape.addBytes(c);
        tape.addBytes(d);
        tape.addBytes(e);
        return tape.length;
    }

    public int end(int n) {
        if (n < 0 || n > tape.length) {
            return NONE;
        }
        tape.length = n;
        return n;
    }

    public int election() {
        boolean right = electionReader.readAll();
        tape.length = 0;
        if (!right) {
            return -2 - tape.fault;
        }
        electionReader.fill(now.sheet);
        now.begin.copyFrom(now.sheet.tally);
        now.held = true;
        now.noteCount = 0;
        history.forget();
        return now.begin.stations;
    }

    public int rule() {
        if (ruleCount >= RULES_MOST) {
            return NONE;
        }
        Rule read = ruleReader.readAll();
        tape.length = 0;
        if (read == null) {
            return -2 - tape.fault;
        }
        rules[ruleCount] = read;
        ruleCount++;
        return ruleCount - 1;
    }

    public int force(int rule) {
        if (rule < NONE || rule >= ruleCount) {
            return NOT_SO;
        }
        int before = now.inForce;
        now.inForce = rule;
        return before;
    }

    // ---- how it stands ----

    public int station(int station, int what) {
        if (!isStation(station)) {
            return NONE;
        }
        if (what == 4) {
            return now.sheet.had[station];
        }
        if (what == 5) {
            return now.sheet.isRecounted(station) ? 1 : 0;
        }
        return now.sheet.tally.numberOf(station, what);
    }

    public int paper(int paper, int what) {
        Sheet sheet = now.sheet;
        if (!sheet.isPaper(paper)) {
            return NONE;
        }
        switch (what) {
            case 0:
                return sheet.stationOf(paper);
            case 1:
                return sheet.kindOf(paper);
            case 2:
                return sheet.placeOf(paper);
            default:
                return NONE;
        }
    }

    public int row(int station, int what, int place) {
        if (!isStation(station) || what != BOX && what != SPOILED) {
            return NONE;
        }
        return now.sheet.paperAt(station, what, place);
    }

    public int runs(int station, int run, int what) {
        if (!isStation(station)) {
            return NOT_SO;
        }
        long stock = now.sheet.tally.stock[station];
        long firsts = stock & ~(stock << 1);
        int all = Long.bitCount(firsts);
        if (run == NONE) {
            return all;
        }
        if (run < 0 || run >= all || what < 0 || what > 1) {
            return NOT_SO;
        }
        return Tally.bitAt(what == 0 ? firsts : stock & ~(stock >>> 1), run);
    }

    public int moved(int from, int to) {
        return areTwo(from, to) ? now.sheet.shifted[from * STATIONS_MOST + to] : NONE;
    }

    public int told(int station, int what) {
        if (!isStation(station) || !isKind(what)) {
            return NONE;
        }
        return now.sheet.said[station * KINDS + what];
    }

    // ---- the acts ----

    public int hour() {
        if (!now.held || now.sheet.tally.hours >= HOUR_LAST) {
            return NONE;
        }
        history.keep(now.sheet);
        int server = now.sheet.passHourByHand(ruleInForce());
        return server == NONE ? NOT_SO : server;
    }

    public int move(int from, int to, int many) {
        Sheet sheet = now.sheet;
        if (!areTwo(from, to) || !isMany(many) || many > sheet.tally.box[from]) {
            return NONE;
        }
        history.keep(sheet);
        for (int i = 0; i < many; i++) {
            sheet.shift(sheet.firstOf(from, BOX), from, to, BOX);
        }
        return sheet.tally.box[to];
    }

    public int lend(int from, int to, int many) {
        Sheet sheet = now.sheet;
        if (!areTwo(from, to) || !isMany(many) || many > sheet.tally.numberOf(from, STOCK)) {
            return NONE;
        }
        history.keep(sheet);
        for (int i = 0; i < many; i++) {
            sheet.shift(Tally.greatest(sheet.tally.stock[from]), from, to, STOCK);
        }
        return sheet.tally.numberOf(to, STOCK);
    }

    public int spoil(int paper) {
        Sheet sheet = now.sheet;
        if (!sheet.isPaper(paper) || sheet.kindOf(paper) == SPOILED) {
            return NONE;
        }
        history.keep(sheet);
        int station = sheet.stationOf(paper);
        sheet.put(paper, station, SPOILED);
        return sheet.tally.spoilt[station];
    }

    public int find(int paper) {
        Sheet sheet = now.sheet;
        if (!sheet.isPaper(paper) || sheet.kindOf(paper) != SPOILED) {
            return NONE;
        }
        history.keep(sheet);
        int station = sheet.stationOf(paper);
        sheet.put(paper, station, BOX);
        return sheet.tally.box[station];
    }

    public int send(int from, int to, int many) {
        Tally tally = now.sheet.tally;
        if (!areTwo(from, to) || !isMany(many) || many > tally.waiting[from]) {
            return NONE;
        }
        history.keep(now.sheet);
        tally.waiting[from] -= many;
        tally.waiting[to] += many;
        return tally.waiting[to];
    }

    public int tell(int station, int what, int number) {
        Sheet sheet = now.sheet;
        if (!isStation(station) || !isKind(what) || number < 0 || number > PAPERS_MOST
                || sheet.isRecounted(station)) {
            return NONE;
        }
        history.keep(sheet);
        sheet.said[station * KINDS + what] = number;
        return sheet.saidCount(station);
    }

    public int recount(int station) {
        Sheet sheet = now.sheet;
        if (!isStation(station) || sheet.isRecounted(station)) {
            return NONE;
        }
        history.keep(sheet);
        for (int kind = STOCK; kind <= SPOILED; kind++) {
            sheet.said[station * KINDS + kind] = sheet.tally.numberOf(station, kind);
        }
        sheet.recounted |= 1 << station;
        return Integer.bitCount(sheet.recounted);
    }

    public int undo() {
        return history.giveBack(now.sheet) ? history.size : NONE;
    }

    // ---- what was told, and slips ----

    public int way(int paper, int k) {
        if (!now.sheet.isPaper(paper) || k < 0) {
            return NONE;
        }
        return now.sheet.stepOf(paper, k);
    }

    public int balance(int station) {
        if (!isStation(station)) {
            return NONE;
        }
        return now.sheet.saidCount(station) < KINDS ? NOT_SO : now.sheet.gapOf(station) + 1000;
    }

    public int slips(int what) {
        int stations = now.sheet.tally.stations;
        if (stations == 0 || what < 0 || what >= 3 + stations) {
            return NOT_ASKED;
        }
        if (!searchSlips(NONE)) {
            return NOT_SO;
        }
        switch (what) {
            case 0:
                return search.fewest;
            case 1:
                return search.fewestTens;
            case 2:
                return search.shiftSlips;
            default:
                return search.bestTens[what - 3] + 100;
        }
    }

    public int must() {
        if (now.sheet.tally.stations == 0) {
            return NOT_ASKED;
        }
        return searchSlips(NONE) ? stationsThatMustSlip() : NOT_SO;
    }

    public int free() {
        int stations = now.sheet.tally.stations;
        if (stations == 0) {
            return NOT_ASKED;
        }
        return searchSlips(NONE) ? ((1 << stations) - 1) & ~stationsThatMustSlip() : NOT_SO;
    }

    public int leaves(int station) {
        if (!isStation(station) || now.sheet.isRecounted(station)) {
            return NONE;
        }
        return searchSlips(station) ? search.fewest : NOT_SO;
    }

    // ---- how it goes on ----

    public int ahead(int station, int n, int what) {
        if (!isStation(station) || n < 0 || n > 100 || what < STOCK || what > WAITING) {
            return NONE;
        }
        trial.copyFrom(now.sheet.tally);
        trial.passHours(ruleInForce(), n);
        return trial.numberOf(station, what);
    }

    public int dry(int station) {
        if (!isStation(station)) {
            return NONE;
        }
        Rule rule = ruleInForce();
        trial.copyFrom(now.sheet.tally);
        for (int i = 0; i < 200; i++) {
            trial.passHour(rule);
            if (trial.waiting[station] > 0 && trial.stock[station] == 0) {
                return trial.hours - 1;
            }
        }
        return NOT_SO;
    }

    public int served() {
        if (!now.held) {
            return NONE;
        }
        Rule rule = ruleInForce();
        trial.copyFrom(now.sheet.tally);
        for (int i = 0; i < 200; i++) {
            trial.passHour(rule);
            if (trial.sumOf(WAITING) == 0) {
                return trial.hours - 1;
            }
        }
        return NOT_SO;
    }

    public int more(int from, int n, int what) {
        if (!isStation(from) || n < 1 || n > 60 || what < 0 || what > 1) {
            return NOT_SO;
        }
        int best = NONE;
        int fewest = waitingAfterGift(from, NONE, n);
        for (int to = 0; to < now.sheet.tally.stations; to++) {
            int waiting = to == from ? fewest : waitingAfterGift(from, to, n);
            if (waiting < fewest) {
                fewest = waiting;
                best = to;
            }
        }
        return what == 0 ? best : fewest;
    }

    public int crowds(int station, int what) {
        if (!isStation(station) || what < 0 || what > 1) {
            return NONE;
        }
        int found = 0;
        int least = NOT_SO;
        for (int voters = 0; voters <= VOTERS_MOST; voters++) {
            trial.copyFrom(now.begin);
            trial.waiting[station] = voters;
            if (now.notesHold(trial, ruleInForce())) {
                least = found == 0 ? voters : least;
                found++;
            }
        }
        return what == 0 ? found : least;
    }

    public int rests(int one, int other, int n, int what) {
        if (!areTwo(one, other) || n < 1 || n > 20 || what < 0 || what > 2) {
            return NONE;
        }
        fillGains(one, other, n);
        int found = 0;
        int first = NONE;
        for (int choice = 0; choice < SENT_CHOICES * SENT_CHOICES; choice++) {
            if (isRest(choice)) {
                first = found == 0 ? choice : first;
                found++;
            }
        }
        if (what == 0) {
            return found;
        }
        if (found == 0) {
            return NOT_SO;
        }
        return what == 1 ? first / SENT_CHOICES : first % SENT_CHOICES;
    }

    public int pence(int much, int station) {
        if (!isStation(station) || much < 0 || much > 9999) {
            return NONE;
        }
        Tally tally = now.sheet.tally;
        int all = tally.sumOf(BOX);
        if (all == 0) {
            return 0;
        }
        int left = much;
        int lost = much * tally.box[station] % all;
        int earlier = 0;
        for (int s = 0; s < tally.stations; s++) {
            int lostThere = much * tally.box[s] % all;
            left -= much * tally.box[s] / all;
            if (lostThere > lost || lostThere == lost && s < station) {
                earlier++;
            }
        }
        return much * tally.box[station] / all + (earlier < left ? 1 : 0);
    }

    // ---- notes ----

    public int note(int n, int station, int box) {
        if (n == NONE) {
            now.noteCount = 0;
            return 0;
        }
        if (!isStation(station) || n < 0 || n > NOTE_HOUR_LAST || box < 0 || box > PAPERS_MOST) {
            return NOT_SO;
        }
        return now.addNote(n, station, box) ? now.noteCount : NOT_SO;
    }

    public int ruled(int what) {
        if (!now.held || what < 0 || what > 1) {
            return NOT_ASKED;
        }
        int found = 0;
        int first = NOT_SO;
        for (int rule = NONE; rule < ruleCount; rule++) {
            trial.copyFrom(now.begin);
            if (now.notesHold(trial, ruleNumbered(rule))) {
                first = found == 0 ? rule : first;
                found++;
            }
        }
        return what == 0 ? found : first;
    }

    public int look(int n, int what) {
        if (!now.held || n < 0 || n > NOTE_HOUR_LAST || what < 0 || what > 1) {
            return NONE;
        }
        int rows = fillBoxesBehind(n);
        if (rows == 0) {
            return NOT_SO;
        }
        int best = NOT_SO;
        int fewest = rows + 1;
        for (int s = 0; s < now.begin.stations; s++) {
            int alike = mostAlike(s, rows);
            if (alike < fewest) {
                fewest = alike;
                best = s;
            }
        }
        return what == 0 || best == NOT_SO ? best : fewest;
    }

    // ---- draws ----

    public int seed(int x) {
        if (x < 0) {
            return NONE;
        }
        int before = now.drawn;
        now.drawn = x;
        return before;
    }

    public int crowded(int m, int n, int p, int what) {
        if (!now.held || m < 1 || m > 10 || n < 1 || n > 60 || p < 0 || p > 100 || what < 0 || what > 1) {
            return NONE;
        }
        Rule rule = ruleInForce();
        int x = now.drawn;
        int sum = 0;
        for (int time = 0; time < m; time++) {
            trial.copyFrom(now.sheet.tally);
            for (int i = 0; i < n; i++) {
                x = trial.drawVoter(x, p);
                trial.passHour(rule);
            }
            sum += trial.sumOf(what == 0 ? BOX : WAITING);
        }
        return sum;
    }

    public int count(int what) {
        Tally tally = now.sheet.tally;
        switch (what) {
            case 0:
                return now.sheet.printed;
            case 1:
                return tally.stations;
            case 2:
                return ruleCount;
            case 3:
                return now.inForce;
            case 4:
                return tally.hours;
            case 5:
                return tally.sumOf(STOCK);
            case 6:
                return tally.sumOf(BOX);
            case 7:
                return tally.sumOf(SPOILED);
            case 8:
                return tally.sumOf(WAITING);
            case 9:
                return tally.serverBits();
            case 10:
                return now.noteCount;
            case 11:
                return history.size;
            case 12:
                return now.drawn;
            case 13:
                return tape.length;
            default:
                return NONE;
        }
    }

    // ---- images ----

    public int image(int k) {
        if (k < 0 || k >= IMAGES_MOST) {
            return NONE;
        }
        if (images[k] == null) {
            images[k] = new Account();
        }
        images[k].copyFrom(now);
        return now.sheet.tally.hours;
    }

    public int back(int k) {
        if (k < 0 || k >= IMAGES_MOST || images[k] == null) {
            return NONE;
        }
        now.copyFrom(images[k]);
        history.forget();
        return now.sheet.tally.hours;
    }

    // ---- what the calls share ----

    private boolean isStation(int station) {
        return station >= 0 && station < now.sheet.tally.stations;
    }

    private boolean areTwo(int from, int to) {
        return isStation(from) && isStation(to) && from != to;
    }

    private static boolean isKind(int what) {
        return what >= STOCK && what <= SPOILED;
    }

    private static boolean isMany(int many) {
        return many >= 1 && many <= MANY_MOST;
    }

    private Rule ruleInForce() {
        return ruleNumbered(now.inForce);
    }

    private Rule ruleNumbered(int rule) {
        return rule >= 0 && rule < ruleCount ? rules[rule] : null;
    }

    /** Looks for the fewest slips, as if one more station (or NONE) was recounted now. */
    private boolean searchSlips(int recountedToo) {
        Sheet sheet = now.sheet;
        int stations = sheet.tally.stations;
        int fixed = sheet.recounted;
        for (int s = 0; s < stations; s++) {
            if (s == recountedToo) {
                search.gaps[s] = 0;
                fixed |= 1 << s;
            } else if (sheet.saidCount(s) < KINDS) {
                return false;
            } else {
                search.gaps[s] = sheet.gapOf(s);
            }
        }
        return search.run(stations, fixed, ANY_NUMBER);
    }

    /** Asked behind a search: a station must slip if barring its slips leaves no way of so few. */
    private int stationsThatMustSlip() {
        Sheet sheet = now.sheet;
        int fewest = search.fewest;
        int bits = 0;
        for (int s = 0; s < sheet.tally.stations; s++) {
            if (!sheet.isRecounted(s)
                    && !search.run(sheet.tally.stations, sheet.recounted | 1 << s, fewest)) {
                bits |= 1 << s;
            }
        }
        return bits;
    }

    private int waitingAfterGift(int from, int to, int n) {
        trial.copyFrom(now.sheet.tally);
        if (to != NONE) {
            trial.give(from, to, 5);
        }
        trial.passHours(ruleInForce(), n);
        return trial.sumOf(WAITING);
    }

    private void fillGains(int one, int other, int n) {
        Tally start = now.sheet.tally;
        Rule rule = ruleInForce();
        for (int choice = 0; choice < SENT_CHOICES * SENT_CHOICES; choice++) {
            int there = Math.min(choice / SENT_CHOICES, start.waiting[one]);
            int here = Math.min(choice % SENT_CHOICES, start.waiting[other]);
            trial.copyFrom(start);
            trial.waiting[one] += here - there;
            trial.waiting[other] += there - here;
            trial.passHours(rule, n);
            oneGains[choice] = 2 * (trial.box[one] - start.box[one]) - trial.waiting[one];
            otherGains[choice] = 2 * (trial.box[other] - start.box[other]) - trial.waiting[other];
        }
    }

    private boolean isRest(int choice) {
        int first = choice / SENT_CHOICES;
        int second = choice % SENT_CHOICES;
        for (int another = 0; another < SENT_CHOICES; another++) {
            if (oneGains[another * SENT_CHOICES + second] > oneGains[choice]
                    || otherGains[first * SENT_CHOICES + another] > otherGains[choice]) {
                return false;
            }
        }
        return true;
    }

    /** A row of boxes for each rule (and none) that is as noted; answers how many rows there are. */
    private int fillBoxesBehind(int n) {
        int rows = 0;
        for (int rule = NONE; rule < ruleCount; rule++) {
            trial.copyFrom(now.begin);
            if (now.notesHold(trial, ruleNumbered(rule))) {
                trial.copyFrom(now.begin);
                trial.passHours(ruleNumbered(rule), n + 1);
                System.arraycopy(trial.box, 0, boxesBehind, rows * STATIONS_MOST, STATIONS_MOST);
                rows++;
            }
        }
        return rows;
    }

    private int mostAlike(int station, int rows) {
        int most = 0;
        for (int i = 0; i < rows; i++) {
            int alike = 0;
            for (int j = 0; j < rows; j++) {
                if (boxesBehind[i * STATIONS_MOST + station] == boxesBehind[j * STATIONS_MOST + station]) {
                    alike++;
                }
            }
            most = Math.max(most, alike);
        }
        return most;
    }

    /** The bytes that came, and a place in them from which a reader reads on. */
    private static final class Tape {
        final int[] bytes = new int[TAPE_MOST];
        int length;
        int at;
        int numberAt;
        int fault;

        void addBytes(int four) {
            for (int shift = 24; shift >= 0; shift -= 8) {
                if (length < TAPE_MOST) {
                    bytes[length] = (four >>> shift) & 255;
                    length++;
                }
            }
        }

        void rewind() {
            at = 0;
            fault = 0;
        }

        /** Answers false, so that a reader can end with it. */
        boolean blame(int place, int kind) {
            fault = 1 + 8 * place + kind;
            return false;
        }

        /** The next byte that is no blank, NONE at the end; it stays unread. */
        int upcoming() {
            while (at < length && bytes[at] == ' ') {
                at++;
            }
            return at < length ? bytes[at] : NONE;
        }

        boolean takeSign(char sign) {
            if (upcoming() != sign) {
                return false;
            }
            at++;
            return true;
        }

        /** Which word of a list comes next; NONE, and it stays unread, if it is none of these. */
        int takeWord(String list) {
            upcoming();
            int stop = at;
            while (stop < length && bytes[stop] >= 'a' && bytes[stop] <= 'z') {
                stop++;
            }
            int word = 0;
            int from = 0;
            for (int i = 0; i <= list.length(); i++) {
                if (i == list.length() || list.charAt(i) == ' ') {
                    if (isWord(list, from, i, stop)) {
                        at = stop;
                        return word;
                    }
                    word++;
                    from = i + 1;
                }
            }
            return NONE;
        }

        private boolean isWord(String list, int from, int to, int stop) {
            if (to - from != stop - at) {
                return false;
            }
            for (int i = from; i < to; i++) {
                if (list.charAt(i) != bytes[at + i - from]) {
                    return false;
                }
            }
            return true;
        }

        /** A number within bounds; NONE, and there is a fault, if none such comes next. */
        int takeNumber(int low, int high) {
            int first = upcoming();
            numberAt = at;
            if (!isDigit(first)) {
                blame(at, FAULT_SIGN);
                return NONE;
            }
            int value = 0;
            while (at < length && isDigit(bytes[at])) {
                if (at - numberAt < DIGITS_MOST) {
                    value = value * 10 + bytes[at] - '0';
                }
                at++;
            }
            if (at - numberAt > DIGITS_MOST || value < low || value > high) {
                blame(numberAt, FAULT_NUMBER);
                return NONE;
            }
            return value;
        }

        static boolean isDigit(int sign) {
            return sign >= '0' && sign <= '9';
        }
    }

    /** Reads an election into a draft, so that nothing changes by a text with a fault. */
    private static final class ElectionReader {
        private final Tape tape;
        private final long[] numbers = new long[STATIONS_MOST];
        private final int[] voters = new int[STATIONS_MOST];
        private long owned;
        private long spoilt;
        private int printed;
        private int stations;

        ElectionReader(Tape tape) {
            this.tape = tape;
        }

        boolean readAll() {
            tape.rewind();
            Arrays.fill(voters, 0);
            owned = 0;
            spoilt = 0;
            stations = 0;
            for (int clause = 0; clause <= ELECTION_CLAUSES_MOST; clause++) {
                if (!readClause(clause)) {
                    return false;
                }
                if (tape.upcoming() == NONE) {
                    return true;
                }
                if (!tape.takeSign(';')) {
                    return tape.blame(tape.at, FAULT_SIGN);
                }
            }
            return false;
        }

        private boolean readClause(int clause) {
            tape.upcoming();
            int place = tape.at;
            int word = tape.takeWord(ELECTION_WORDS);
            if (word == NONE) {
                return tape.blame(place, FAULT_SIGN);
            }
            if (clause >= ELECTION_CLAUSES_MOST || (word == WORD_PAPERS) != (clause == 0)
                    || word == WORD_STATION && stations >= STATIONS_MOST) {
                return tape.blame(place, FAULT_CLAUSE);
            }
            switch (word) {
                case WORD_PAPERS:
                    printed = tape.takeNumber(1, PAPERS_MOST);
                    return printed != NONE;
                case WORD_STATION:
                    return readStation();
                case WORD_VOTERS:
                    return readVoters();
                default:
                    return readSpoiled();
            }
        }

        private boolean readStation() {
            int from = tape.takeNumber(0, printed - 1);
            if (from == NONE) {
                return false;
            }
            if ((owned >>> from & 1) != 0) {
                return tape.blame(tape.numberAt, FAULT_NUMBER);
            }
            int to = tape.takeNumber(from, printed - 1);
            if (to == NONE) {
                return false;
            }
            long these = (1L << to + 1) - (1L << from);
            if ((owned & these) != 0) {
                return tape.blame(tape.numberAt, FAULT_NUMBER);
            }
            owned |= these;
            numbers[stations] = these;
            stations++;
            return true;
        }

        private boolean readVoters() {
            int station = tape.takeNumber(0, stations - 1);
            if (station == NONE) {
                return false;
            }
            int many = tape.takeNumber(0, VOTERS_MOST);
            if (many == NONE) {
                return false;
            }
            voters[station] = many;
            return true;
        }

        private boolean readSpoiled() {
            int number = tape.takeNumber(0, printed - 1);
            if (number == NONE) {
                return false;
            }
            if ((owned >>> number & 1) == 0) {
                return tape.blame(tape.numberAt, FAULT_NUMBER);
            }
            spoilt |= 1L << number;
            return true;
        }

        void fill(Sheet sheet) {
            sheet.clear();
            sheet.printed = printed;
            sheet.tally.stations = stations;
            for (int s = 0; s < stations; s++) {
                sheet.had[s] = Long.bitCount(numbers[s]);
                sheet.tally.waiting[s] = voters[s];
                for (int paper = 0; paper < printed; paper++) {
                    if ((numbers[s] >>> paper & 1) != 0) {
                        sheet.put(paper, s, (spoilt >>> paper & 1) != 0 ? SPOILED : STOCK);
                    }
                }
            }
        }
    }

    /** Reads a rule into code for a stack: what joins two values comes behind both. */
    private static final class RuleReader {
        private final Tape tape;
        private final int[] code = new int[TAPE_MOST];
        private int used;
        private int parts;

        RuleReader(Tape tape) {
            this.tape = tape;
        }

        /** The rule that the tape holds; null, and the tape has a fault, if it holds none. */
        Rule readAll() {
            tape.rewind();
            used = 0;
            parts = 0;
            for (int clause = 0; clause <= RULE_CLAUSES_MOST; clause++) {
                tape.upcoming();
                int place = tape.at;
                if (tape.takeWord("serve") == NONE) {
                    tape.blame(place, FAULT_SIGN);
                    return null;
                }
                if (clause == RULE_CLAUSES_MOST) {
                    tape.blame(place, FAULT_CLAUSE);
                    return null;
                }
                if (!readSum()) {
                    return null;
                }
                boolean tests = tape.takeWord("if") != NONE;
                if (tests && !readTest(0)) {
                    return null;
                }
                addCode(tests ? OP_TAKE_IF : OP_TAKE, 0);
                if (tape.upcoming() == NONE) {
                    return new Rule(Arrays.copyOf(code, used));
                }
                if (!tape.takeSign(';')) {
                    tape.blame(tape.at, FAULT_SIGN);
                    return null;
                }
            }
            return null;
        }

        /** An "or" waits until the facts that "and" joins behind it are read. */
        private boolean readTest(int depth) {
            if (!readFact(depth)) {
                return false;
            }
            boolean waits = false;
            for (int i = 0; i < TAPE_MOST; i++) {
                int word = tape.takeWord("or and");
                if (word == NONE) {
                    break;
                }
                if (word == 0 && waits) {
                    addCode(OP_OR, 0);
                }
                if (!readFact(depth)) {
                    return false;
                }
                if (word == 0) {
                    waits = true;
                } else {
                    addCode(OP_AND, 0);
                }
            }
            if (waits) {
                addCode(OP_OR, 0);
            }
            return true;
        }

        /** Each "not" lies one deeper than what it stands ahead of, and turns it when that is read. */
        private boolean readFact(int depth) {
            int deep = depth;
            tape.upcoming();
            int place = tape.at;
            while (deep <= DEPTH_MOST && tape.takeWord("not") != NONE) {
                if (deep == DEPTH_MOST) {
                    return tape.blame(place, FAULT_DEEP);
                }
                deep++;
                tape.upcoming();
                place = tape.at;
            }
            boolean opens = tape.takeSign('[');
            if (opens && deep >= DEPTH_MOST) {
                return tape.blame(place, FAULT_DEEP);
            }
            if (!(opens ? readBrackets(deep + 1) : readComparison())) {
                return false;
            }
            for (int i = depth; i < deep; i++) {
                addCode(OP_NOT, 0);
            }
            return true;
        }

        private boolean readBrackets(int depth) {
            return readTest(depth) && (tape.takeSign(']') || tape.blame(tape.at, FAULT_SIGN));
        }

        private boolean readComparison() {
            if (!readSum()) {
                return false;
            }
            tape.upcoming();
            int place = tape.at;
            int op = takeComparison();
            if (op == NONE) {
                return tape.blame(place, FAULT_SIGN);
            }
            if (!countPart(place) || !readSum()) {
                return false;
            }
            addCode(op, 0);
            return true;
        }

        private int takeComparison() {
            if (tape.takeSign('=')) {
                return OP_SAME;
            }
            boolean below = tape.takeSign('<');
            if (!below && !tape.takeSign('>')) {
                return NONE;
            }
            boolean too = tape.at < tape.length && tape.bytes[tape.at] == '=';
            if (too) {
                tape.at++;
                return below ? OP_AT_MOST : OP_AT_LEAST;
            }
            return below ? OP_BELOW : OP_ABOVE;
        }

        /** A + or - waits until the values that * / % join behind it are read. */
        private boolean readSum() {
            if (!readValue()) {
                return false;
            }
            int waits = NONE;
            for (int i = 0; i < TAPE_MOST; i++) {
                int op = takeOperation();
                if (op == NONE) {
                    break;
                }
                boolean adds = op == OP_ADD || op == OP_SUBTRACT;
                if (adds && waits != NONE) {
                    addCode(waits, 0);
                }
                if (!readValue()) {
                    return false;
                }
                if (adds) {
                    waits = op;
                } else {
                    addCode(op, 0);
                }
            }
            if (waits != NONE) {
                addCode(waits, 0);
            }
            return true;
        }

        private int takeOperation() {
            int op = NONE;
            switch (tape.upcoming()) {
                case '+':
                    op = OP_ADD;
                    break;
                case '-':
                    op = OP_SUBTRACT;
                    break;
                case '*':
                    op = OP_MULTIPLY;
                    break;
                case '/':
                    op = OP_DIVIDE;
                    break;
                case '%':
                    op = OP_REST;
                    break;
                default:
                    return NONE;
            }
            tape.at++;
            return op;
        }

        private boolean readValue() {
            int first = tape.upcoming();
            int place = tape.at;
            if (Tape.isDigit(first)) {
                int number = tape.takeNumber(0, VALUE_MOST);
                if (number == NONE) {
                    return false;
                }
                addCode(OP_NUMBER, number);
            } else {
                int word = tape.takeWord(RULE_WORDS);
                if (word == NONE) {
                    return tape.blame(place, FAULT_SIGN);
                }
                addCode(OP_WORD, word);
            }
            return countPart(place);
        }

        private boolean countPart(int place) {
            parts++;
            return parts <= PARTS_MOST || tape.blame(place, FAULT_PARTS);
        }

        private void addCode(int op, int operand) {
            if (used < code.length) {
                code[used] = op | operand << OP_BITS;
                used++;
            }
        }
    }

    /** A rule that was read, as code for a stack. */
    private static final class Rule {
        private final int[] code;
        private final long[] stack = new long[2 * (DEPTH_MOST + 1) + 10];

        Rule(int[] code) {
            this.code = code;
        }

        /** The sum of the first clause that holds for a station, 0 without. */
        long worth(Tally tally, int station) {
            int top = 0;
            for (int i = 0; i < code.length; i++) {
                int op = code[i] & OP_MASK;
                int operand = code[i] >> OP_BITS;
                if (op == OP_NUMBER || op == OP_WORD) {
                    if (top < stack.length) {
                        stack[top] = op == OP_NUMBER ? operand : tally.wordValue(operand, station);
                        top++;
                    }
                } else if (op == OP_TAKE || op == OP_NOT) {
                    if (top < 1 || op == OP_TAKE) {
                        return top < 1 ? 0 : stack[top - 1];
                    }
                    stack[top - 1] = truth(stack[top - 1] == 0);
                } else if (top < 2) {
                    return 0;
                } else if (op == OP_TAKE_IF) {
                    top -= 2;
                    if (stack[top + 1] != 0) {
                        return stack[top];
                    }
                } else {
                    top--;
                    stack[top - 1] = joined(op, stack[top - 1], stack[top]);
                }
            }
            return 0;
        }

        private static long joined(int op, long a, long b) {
            switch (op) {
                case OP_ADD:
                    return a + b;
                case OP_SUBTRACT:
                    return a - b;
                case OP_MULTIPLY:
                    return a * b;
                case OP_DIVIDE:
                    return b == 0 ? 0 : a / b;
                case OP_REST:
                    return b == 0 ? 0 : a % b;
                case OP_BELOW:
                    return truth(a < b);
                case OP_AT_MOST:
                    return truth(a <= b);
                case OP_SAME:
                    return truth(a == b);
                case OP_AT_LEAST:
                    return truth(a >= b);
                case OP_ABOVE:
                    return truth(a > b);
                case OP_AND:
                    return a & b;
                default:
                    return a | b;
            }
        }

        private static long truth(boolean holds) {
            return holds ? 1 : 0;
        }
    }

    /** What hours change, by numbers alone: hours that are only asked for need no rows. */
    private static final class Tally {
        /** The numbers of each stock, as bits. */
        final long[] stock = new long[STATIONS_MOST];
        final int[] box = new int[STATIONS_MOST];
        final int[] spoilt = new int[STATIONS_MOST];
        final int[] waiting = new int[STATIONS_MOST];
        int stations;
        int hours;
        private int crowd;
        private int left;

        void clear() {
            Arrays.fill(stock, 0);
            Arrays.fill(box, 0);
            Arrays.fill(spoilt, 0);
            Arrays.fill(waiting, 0);
            stations = 0;
            hours = 0;
        }

        void copyFrom(Tally other) {
            for (int s = 0; s < STATIONS_MOST; s++) {
                stock[s] = other.stock[s];
                box[s] = other.box[s];
                spoilt[s] = other.spoilt[s];
                waiting[s] = other.waiting[s];
            }
            stations = other.stations;
            hours = other.hours;
        }

        int numberOf(int station, int what) {
            switch (what) {
                case STOCK:
                    return Long.bitCount(stock[station]);
                case BOX:
                    return box[station];
                case SPOILED:
                    return spoilt[station];
                case WAITING:
                    return waiting[station];
                default:
                    return NONE;
            }
        }

        int sumOf(int what) {
            int sum = 0;
            for (int s = 0; s < stations; s++) {
                sum += numberOf(s, what);
            }
            return sum;
        }

        /** The value of a word of RULE_WORDS, which are numbered in their order. */
        long wordValue(int word, int station) {
            switch (word) {
                case 0:
                    return station;
                case 1:
                    return waiting[station];
                case 2:
                    return Long.bitCount(stock[station]);
                case 3:
                    return box[station];
                case 4:
                    return spoilt[station];
                case 5:
                    return Long.numberOfTrailingZeros(stock[station]);
                case 6:
                    return Long.bitCount(stock[station] & ~(stock[station] << 1));
                case 7:
                    return crowd;
                case 8:
                    return left;
                default:
                    return hours;
            }
        }

        boolean canServe(int station) {
            return waiting[station] > 0 && stock[station] != 0;
        }

        int serverBits() {
            int bits = 0;
            for (int s = 0; s < stations; s++) {
                if (canServe(s)) {
                    bits |= 1 << s;
                }
            }
            return bits;
        }

        void passHour(Rule rule) {
            int server = choose(rule);
            if (server != NONE) {
                serve(server);
            }
            hours++;
        }

        void passHours(Rule rule, int n) {
            for (int i = 0; i < n; i++) {
                passHour(rule);
            }
        }

        /** Which station serves this hour, or NONE. */
        int choose(Rule rule) {
            if (rule == null) {
                int servers = serverBits();
                return servers == 0 ? NONE : Integer.numberOfTrailingZeros(servers);
            }
            // the sums over all stations are the same for each of them, so they are made once
            crowd = sumOf(WAITING);
            left = sumOf(STOCK);
            int best = NONE;
            long greatest = 0;
            for (int s = 0; s < stations; s++) {
                if (canServe(s)) {
                    long worth = rule.worth(this, s);
                    if (worth > greatest) {
                        greatest = worth;
                        best = s;
                    }
                }
            }
            return best;
        }

        void serve(int station) {
            long least = Long.lowestOneBit(stock[station]);
            stock[station] ^= least;
            if (Long.numberOfTrailingZeros(least) % 7 == 3) {
                spoilt[station]++;
                least = Long.lowestOneBit(stock[station]);
                if (least == 0) {
                    return;
                }
                stock[station] ^= least;
            }
            box[station]++;
            waiting[station]--;
        }

        /** The greatest numbers of one stock go to another one, as many as there are. */
        void give(int from, int to, int many) {
            for (int i = 0; i < many; i++) {
                long greatest = Long.highestOneBit(stock[from]);
                stock[from] ^= greatest;
                stock[to] |= greatest;
            }
        }

        /** One voter may come as x draws; answers what x is then. */
        int drawVoter(int x, int p) {
            int drawn = nextDrawn(x);
            if ((drawn >> 16) % 100 >= p || stations == 0) {
                return drawn;
            }
            drawn = nextDrawn(drawn);
            int station = (drawn >> 16) % stations;
            if (waiting[station] < CROWD_MOST) {
                waiting[station]++;
            }
            return drawn;
        }

        private static int nextDrawn(int x) {
            return (x * 1103515245 + 12345) & X_MOST;
        }

        static int greatest(long numbers) {
            return 63 - Long.numberOfLeadingZeros(numbers);
        }

        /** The number in a place (from 0) of a row of numbers, the least first. */
        static int bitAt(long numbers, int place) {
            long rest = numbers;
            for (int i = 0; i < place; i++) {
                rest &= rest - 1;
            }
            return Long.numberOfTrailingZeros(rest);
        }
    }

    /** All that acts change, so that an act is undone by going back to a copy. */
    private static final class Sheet {
        final Tally tally = new Tally();
        final int[] had = new int[STATIONS_MOST];
        /** Of each number its station * KINDS + its kind, NONE if no station was told to have it. */
        final int[] where = new int[PAPERS_MOST];
        /** Grows with each paper that is put somewhere: rows are in the order of these. */
        final int[] stamp = new int[PAPERS_MOST];
        /** The length of each way in 4 bits, and above these its stations in 3 bits each. */
        final long[] trail = new long[PAPERS_MOST];
        final int[] shifted = new int[STATIONS_MOST * STATIONS_MOST];
        final int[] said = new int[STATIONS_MOST * KINDS];
        int printed;
        int recounted;
        int stamps;

        Sheet() {
            Arrays.fill(where, NONE);
            Arrays.fill(said, NOT_SO);
        }

        void clear() {
            tally.clear();
            Arrays.fill(had, 0);
            Arrays.fill(where, NONE);
            Arrays.fill(stamp, 0);
            Arrays.fill(trail, 0);
            Arrays.fill(shifted, 0);
            Arrays.fill(said, NOT_SO);
            printed = 0;
            recounted = 0;
            stamps = 0;
        }

        void copyFrom(Sheet other) {
            tally.copyFrom(other.tally);
            System.arraycopy(other.had, 0, had, 0, had.length);
            System.arraycopy(other.where, 0, where, 0, where.length);
            System.arraycopy(other.stamp, 0, stamp, 0, stamp.length);
            System.arraycopy(other.trail, 0, trail, 0, trail.length);
            System.arraycopy(other.shifted, 0, shifted, 0, shifted.length);
            System.arraycopy(other.said, 0, said, 0, said.length);
            printed = other.printed;
            recounted = other.recounted;
            stamps = other.stamps;
        }

        boolean isPaper(int number) {
            return number >= 0 && number < PAPERS_MOST && where[number] != NONE;
        }

        int stationOf(int number) {
            return where[number] / KINDS;
        }

        int kindOf(int number) {
            return where[number] % KINDS;
        }

        int placeOf(int number) {
            if (kindOf(number) == STOCK) {
                return Long.bitCount(tally.stock[stationOf(number)] & (1L << number) - 1);
            }
            int earlier = 0;
            for (int other = 0; other < PAPERS_MOST; other++) {
                if (where[other] == where[number] && stamp[other] < stamp[number]) {
                    earlier++;
                }
            }
            return earlier;
        }

        int paperAt(int station, int kind, int place) {
            for (int number = 0; number < PAPERS_MOST; number++) {
                if (where[number] == station * KINDS + kind && placeOf(number) == place) {
                    return number;
                }
            }
            return NONE;
        }

        int firstOf(int station, int kind) {
            int first = NONE;
            for (int number = 0; number < PAPERS_MOST; number++) {
                if (where[number] == station * KINDS + kind && (first == NONE || stamp[number] < stamp[first])) {
                    first = number;
                }
            }
            return first;
        }

        /** A paper leaves where it is, if it is anywhere, and comes behind all others elsewhere. */
        void put(int number, int station, int kind) {
            if (where[number] != NONE) {
                addToTally(number, stationOf(number), kindOf(number), -1);
            }
            addToTally(number, station, kind, 1);
            mark(number, station, kind);
        }

        private void addToTally(int number, int station, int kind, int many) {
            if (kind == STOCK) {
                tally.stock[station] ^= 1L << number;
            } else if (kind == BOX) {
                tally.box[station] += many;
            } else {
                tally.spoilt[station] += many;
            }
        }

        private void mark(int number, int station, int kind) {
            where[number] = station * KINDS + kind;
            stamp[number] = stamps;
            stamps++;
        }

        /** A paper is moved or lent: that is counted, and is a step of its way. */
        void shift(int number, int from, int to, int kind) {
            if (!isPaper(number)) {
                return;
            }
            put(number, to, kind);
            shifted[from * STATIONS_MOST + to]++;
            int steps = (int) (trail[number] & 15);
            if (steps < WAY_MOST) {
                trail[number] += ((long) to << 4 + 3 * steps) + 1;
            }
        }

        int stepOf(int number, int k) {
            int steps = (int) (trail[number] & 15);
            if (k == 0) {
                return steps;
            }
            return k > steps ? NOT_SO : (int) (trail[number] >>> 1 + 3 * k) & 7;
        }

        /** The tally serves; of the numbers that are gone then, a spoiled one is the least. */
        int passHourByHand(Rule rule) {
            int server = tally.choose(rule);
            if (server != NONE) {
                long gone = tally.stock[server];
                int spoiltBefore = tally.spoilt[server];
                tally.serve(server);
                gone ^= tally.stock[server];
                if (gone != 0 && tally.spoilt[server] > spoiltBefore) {
                    mark(Long.numberOfTrailingZeros(gone), server, SPOILED);
                    gone &= gone - 1;
                }
                if (gone != 0) {
                    mark(Long.numberOfTrailingZeros(gone), server, BOX);
                }
            }
            tally.hours++;
            return server;
        }

        boolean isRecounted(int station) {
            return (recounted >> station & 1) != 0;
        }

        int saidCount(int station) {
            int count = 0;
            for (int kind = STOCK; kind <= SPOILED; kind++) {
                if (said[station * KINDS + kind] != NOT_SO) {
                    count++;
                }
            }
            return count;
        }

        int gapOf(int station) {
            int gap = had[station];
            for (int other = 0; other < STATIONS_MOST; other++) {
                gap += shifted[other * STATIONS_MOST + station] - shifted[station * STATIONS_MOST + other];
            }
            for (int kind = STOCK; kind <= SPOILED; kind++) {
                gap -= said[station * KINDS + kind];
            }
            return gap;
        }
    }

    /** All that an image keeps. */
    private static final class Account {
        final Sheet sheet = new Sheet();
        final Tally begin = new Tally();
        final int[] noteHours = new int[NOTES_MOST];
        final int[] noteStations = new int[NOTES_MOST];
        final int[] noteBoxes = new int[NOTES_MOST];
        int noteCount;
        int drawn;
        int inForce = NONE;
        boolean held;

        void copyFrom(Account other) {
            sheet.copyFrom(other.sheet);
            begin.copyFrom(other.begin);
            System.arraycopy(other.noteHours, 0, noteHours, 0, NOTES_MOST);
            System.arraycopy(other.noteStations, 0, noteStations, 0, NOTES_MOST);
            System.arraycopy(other.noteBoxes, 0, noteBoxes, 0, NOTES_MOST);
            noteCount = other.noteCount;
            drawn = other.drawn;
            inForce = other.inForce;
            held = other.held;
        }

        boolean addNote(int hour, int station, int box) {
            if (noteCount >= NOTES_MOST) {
                return false;
            }
            noteHours[noteCount] = hour;
            noteStations[noteCount] = station;
            noteBoxes[noteCount] = box;
            noteCount++;
            return true;
        }

        /** Whether all notes are so, if hours pass from a tally of hour 0 on. */
        boolean notesHold(Tally tally, Rule rule) {
            int last = NONE;
            for (int i = 0; i < noteCount; i++) {
                last = Math.max(last, noteHours[i]);
            }
            for (int hour = 0; hour <= last; hour++) {
                tally.passHour(rule);
                for (int i = 0; i < noteCount; i++) {
                    if (noteHours[i] == hour && tally.box[noteStations[i]] != noteBoxes[i]) {
                        return false;
                    }
                }
            }
            return true;
        }
    }

    /** Copies of the sheet, each as it was ahead of an act; the oldest gives way to one too many. */
    private static final class History {
        private final Sheet[] sheets = new Sheet[UNDO_MOST];
        private int oldest;
        int size;

        void keep(Sheet sheet) {
            int place = (oldest + size) % UNDO_MOST;
            if (sheets[place] == null) {
                sheets[place] = new Sheet();
            }
            sheets[place].copyFrom(sheet);
            if (size < UNDO_MOST) {
                size++;
            } else {
                oldest = (oldest + 1) % UNDO_MOST;
            }
        }

        boolean giveBack(Sheet sheet) {
            if (size == 0) {
                return false;
            }
            size--;
            Sheet kept = sheets[(oldest + size) % UNDO_MOST];
            if (kept == null) {
                return false;
            }
            sheet.copyFrom(kept);
            return true;
        }

        void forget() {
            size = 0;
        }
    }

    /**
     * The fewest slips by which all gaps close. Of a choice of tens the rest follows: as many gaps as can
     * close one another by slips of moved (one slip in place of two), and what is left over on the whole is
     * closed by ones, at the stations where it is, or else (where that is fixed) by way of slips of moved.
     */
    private static final class SlipSearch {
        final int[] gaps = new int[STATIONS_MOST];
        final int[] bestTens = new int[STATIONS_MOST];
        private final int[] tens = new int[STATIONS_MOST];
        private int stations;
        private int fixed;
        private int reach;
        private int limit;
        int fewest;
        int fewestTens;
        int shiftSlips;

        /** Whether there is a way of at most so many slips, none of a fixed station's own. */
        boolean run(int stations, int fixed, int atMost) {
            this.stations = Math.min(stations, STATIONS_MOST);
            this.fixed = fixed;
            limit = atMost;
            fewest = NONE;
            // a way without tens is found at once and bounds the search with them
            reach = 0;
            descend(this, 0, 0, 0, 0, 0, 0);
            reach = TENS_MOST;
            descend(this, 0, 0, 0, 0, 0, 0);
            return fewest != NONE;
        }

        /** Tens from below up, so that of ways that are as good the first one is found first. */
        private static void descend(SlipSearch search, int station, int used, int above, int below,
                int ownAbove, int ownBelow) {
            if (used + Math.max(above, below) > search.limit) {
                return;
            }
            if (station >= search.stations) {
                search.weigh(used, above, below, ownAbove, ownBelow);
                return;
            }
            boolean own = (search.fixed >> station & 1) == 0;
            int most = own ? search.reach : 0;
            for (int ten = -most; ten <= most; ten++) {
                int gap = search.gaps[station] - 10 * ten;
                int up = Math.max(gap, 0);
                int down = Math.max(-gap, 0);
                search.tens[station] = ten;
                descend(search, station + 1, used + Math.abs(ten), above + up, below + down,
                        own ? ownAbove + up : ownAbove, own ? ownBelow + down : ownBelow);
            }
        }

        private void weigh(int used, int above, int below, int ownAbove, int ownBelow) {
            int over = above - below;
            boolean allFixed = (~fixed & (1 << stations) - 1) == 0;
            if (allFixed && over != 0) {
                return;
            }
            int shifts = over >= 0 ? above - Math.min(over, ownAbove) : below - Math.min(-over, ownBelow);
            int slips = used + Math.abs(over) + shifts;
            if (slips > limit || slips == fewest && used >= fewestTens) {
                return;
            }
            limit = slips;
            fewest = slips;
            fewestTens = used;
            shiftSlips = shifts;
            System.arraycopy(tens, 0, bestTens, 0, STATIONS_MOST);
        }
    }
}
