/**
 * A jury for a building: briefs in texts, sealed schemes drawn by cells, two rounds of votes, a
 * winner and the fees. What each call answers is told by the promises of DOC.md.
 */
public final class BuildingJury {

    public static final int NONE = -1;

    private static final int NOT_DONE = -2;
    private static final int FULL = -3;
    private static final int LAST_DAY = 1000;
    private static final int MOST_SCHEMES = 10;
    private static final int AUTHORS = 40;
    private static final int ROOMS = 12;
    private static final int STAGES = 3;
    private static final int MOST_TERMS = 11;
    private static final int FIRST_RATE = 20;

    private final Tape tape = new Tape();
    private final RoomNames roomNames = new RoomNames();
    private final Briefs briefs = new Briefs();
    private final Reader reader = new Reader(tape, roomNames);
    private final Survey survey = new Survey();
    private final Questions questions = new Questions();
    private final Panel panel = new Panel();
    private final Scheme[] schemes = new Scheme[MOST_SCHEMES];
    private final Round firstRound = new Round();
    private final Round secondRound = new Round();
    private int today = 0;
    private int faultPlace = NONE;
    private int schemeCount = 0;
    private long pairsSeen = 0;
    private int openRound = 0;
    private int closedRounds = 0;
    private int failures = 0;
    private int stagesPaid = 0;
    private int feesPaid = 0;

    public BuildingJury() {
    }

    public boolean day(int d) {
        if (d <= today || d > LAST_DAY) {
            return false;
        }
        today = d;
        survey.forgetMend();
        return true;
    }

    public int feed(int a, int b, int c, int d, int e) {
        if (!tape.hasRoomFor(20)) {
            return NONE;
        }
        tape.add(a);
        tape.add(b);
        tape.add(c);
        tape.add(d);
        tape.add(e);
        return tape.length;
    }

    public int brief(int n) {
        if (!tape.holds(n)) {
            return NOT_DONE;
        }
        if (briefs.isFull()) {
            return FULL;
        }
        Brief draft = briefs.draft();
        boolean taken = reader.read(n, draft);
        tape.clear();
        faultPlace = taken ? NONE : reader.place();
        if (!taken) {
            return NONE;
        }
        survey.forgetMend();
        return briefs.take(draft, today);
    }

    public int fault() {
        return faultPlace;
    }

    public int binds(int day) {
        return isDay(day) ? briefs.numberOn(day) : NONE;
    }

    public int law(int day, int what) {
        if (!isDay(day)) {
            return NONE;
        }
        Brief brief = briefs.on(day);
        if (what >= 0 && what < MOST_TERMS) {
            return brief.term(what);
        }
        if (what == 11) {
            return brief.statements;
        }
        if (what == 12) {
            return brief.canBeMet();
        }
        return what > FIRST_RATE && what <= FIRST_RATE + ROOMS ? brief.rate(what - FIRST_RATE) : NONE;
    }

    public int name(int room, int i) {
        long word = roomNames.wordOf(room);
        if (word == 0) {
            return NONE;
        }
        return i == NONE ? Words.lengthOf(word) : Words.letterOf(word, i);
    }

    public boolean sun(int side, int hours) {
        if (side < 0 || side >= Survey.SIDES || hours < 0 || hours > 12) {
            return false;
        }
        survey.setSun(side, hours);
        survey.forgetMend();
        return true;
    }

    public int scheme(int author) {
        if (!isAuthor(author) || schemeCount < 0 || schemeCount >= schemes.length) {
            return NONE;
        }
        schemes[schemeCount] = new Scheme(author);
        schemeCount++;
        return schemeCount - 1;
    }

    public boolean draw(int scheme, int storey, int x, int y, int u, int v, int what) {
        Scheme drawn = schemeAt(scheme);
        if (drawn == null || drawn.isHandedIn() || !Scheme.isThing(what)) {
            return false;
        }
        if (!Scheme.isCell(storey, x, y) || !Scheme.isCell(storey, u, v) || u < x || v < y) {
            return false;
        }
        for (int row = y; row <= v; row++) {
            for (int column = x; column <= u; column++) {
                drawn.put(Scheme.placeOf(storey, column, row), what);
            }
        }
        survey.forgetMend();
        return true;
    }

    public int cell(int scheme, int storey, int x, int y) {
        Scheme seen = schemeAt(scheme);
        if (seen == null || !Scheme.isCell(storey, x, y)) {
            return NONE;
        }
        return seen.thingAt(Scheme.placeOf(storey, x, y));
    }

    public boolean hand(int scheme) {
        Scheme handed = schemeAt(scheme);
        if (handed == null || handed.isHandedIn()) {
            return false;
        }
        handed.handedOn = today;
        survey.forgetMend();
        return true;
    }

    public int room(int scheme, int room, int what) {
        Scheme seen = schemeAt(scheme);
        if (seen == null || !isRoom(room)) {
            return NONE;
        }
        switch (what) {
            case 0:
                return seen.countOf(room);
            case 1:
                return survey.lightOf(seen, room);
            default:
                return NONE;
        }
    }

    public int steps(int scheme, int room, int other) {
        Scheme seen = schemeAt(scheme);
        if (seen == null || !isRoom(room) || !isRoom(other) || room == other) {
            return NONE;
        }
        return survey.stepsWithin(seen, room, other, Brief.MOST_CELLS);
    }

    public int cost(int scheme, int day, int what) {
        Scheme seen = schemeAt(scheme);
        if (seen == null || !isDay(day)) {
            return NONE;
        }
        Brief brief = briefs.on(day);
        int sum = seen.costBy(brief);
        int span = sum * brief.term(Brief.SPAN) / 100;
        switch (what) {
            case 0:
                return sum;
            case 1:
                return sum - span;
            case 2:
                return sum + span;
            default:
                return NONE;
        }
    }

    public int why(int scheme) {
        Scheme seen = schemeAt(scheme);
        return seen == null ? NOT_DONE : survey.firstBroken(seen, briefOf(seen), today);
    }

    public int mend(int scheme, int what) {
        Scheme seen = schemeAt(scheme);
        if (seen == null) {
            return NONE;
        }
        survey.seekMend(scheme, seen, briefOf(seen), today);
        return survey.mendPart(what);
    }

    public int alike(int scheme, int other) {
        Scheme one = schemeAt(scheme);
        Scheme two = schemeAt(other);
        if (one == null || two == null || scheme == other) {
            return NONE;
        }
        return lookAt(Math.min(scheme, other), Math.max(scheme, other));
    }

    public int most(int what) {
        if (schemeCount < 2 || what < 0 || what > 2) {
            return NONE;
        }
        int best = NONE;
        int first = NONE;
        int second = NONE;
        for (int a = 0; a < schemeCount; a++) {
            for (int b = a + 1; b < schemeCount; b++) {
                int same = lookAt(a, b);
                if (same > best) {
                    best = same;
                    first = a;
                    second = b;
                }
            }
        }
        if (what == 0) {
            return best;
        }
        return what == 1 ? first : second;
    }

    public boolean calls(int author, int n) {
        if (!isAuthor(author) || !tape.holds(n)) {
            return false;
        }
        long word = tape.wordOf(n);
        tape.clear();
        if (word == 0) {
            return false;
        }
        questions.nameAuthor(author, word);
        return true;
    }

    public int ask(int n, int answer) {
        if (!tape.holds(n) || questions.isFull()) {
            return NOT_DONE;
        }
        int number = questions.put(tape, n, answer, today);
        tape.clear();
        return number;
    }

    public int answered(int question, int what) {
        return questions.part(question, what);
    }

    public int juror() {
        return panel.add();
    }

    public boolean knows(int juror, int author, int day) {
        if (!panel.has(juror) || !isAuthor(author) || !isDay(day)) {
            return false;
        }
        panel.tell(juror, author, day);
        return true;
    }

    public int marks(int juror, long row) {
        Round round = openRound == 0 ? null : roundAt(openRound);
        if (round == null || !panel.has(juror)) {
            return NONE;
        }
        return round.mark(juror, row, schemeCount);
    }

    public int open() {
        if (openRound != 0 || closedRounds >= 2) {
            return NONE;
        }
        if (closedRounds == 0) {
            admitAllThatStand();
        }
        Round round = closedRounds == 0 ? firstRound : secondRound;
        if (round.size == 0) {
            return NONE;
        }
        openRound = closedRounds + 1;
        return round.size;
    }

    public int close() {
        if (openRound == 0) {
            return NONE;
        }
        Round round = openRound == 1 ? firstRound : secondRound;
        Brief brief = briefs.on(today);
        round.weighVoices(panel, schemes, today);
        round.finish(brief.term(Brief.VOTE), brief.term(Brief.TIE));
        int answer = round.size;
        if (openRound == 1) {
            answer = round.keepBest(brief.term(Brief.KEEP), secondRound);
        }
        closedRounds = openRound;
        openRound = 0;
        return answer;
    }

    public int points(int round, int rule, int scheme) {
        Round seen = roundAt(round);
        if (seen == null || !isRule(rule) || !seen.has(scheme)) {
            return NONE;
        }
        return seen.pointsBy(rule, scheme);
    }

    public int voice(int round, int juror) {
        Round seen = roundAt(round);
        if (seen == null || !panel.has(juror)) {
            return NONE;
        }
        return seen.counts(juror) ? 1 : 0;
    }

    public int order(int round, int rule, int k) {
        Round seen = round == openRound ? null : roundAt(round);
        if (seen == null || rule != NONE && !isRule(rule)) {
            return NONE;
        }
        return seen.rankedAt(rule == NONE ? seen.rule : rule, k);
    }

    public int author(int scheme) {
        Scheme seen = schemeAt(scheme);
        return seen == null || closedRounds < 2 ? NONE : seen.author;
    }

    public int winner() {
        return closedRounds < 2 ? NONE : secondRound.rankedAt(secondRound.rule, failures);
    }

    public int fail() {
        if (winner() == NONE) {
            return NOT_DONE;
        }
        failures++;
        stagesPaid = 0;
        return winner();
    }

    public int pay() {
        Scheme paid = schemeAt(winner());
        if (paid == null || stagesPaid >= STAGES) {
            return NONE;
        }
        int hundredths = briefs.on(today).term(Brief.FEE + stagesPaid);
        int fee = paid.costBy(briefOf(paid)) * hundredths / 100;
        feesPaid += fee;
        stagesPaid++;
        return fee;
    }

    public int count(int what) {
        switch (what) {
            case 0:
                return today;
            case 1:
                return briefs.size;
            case 2:
                return roomNames.size;
            case 3:
                return schemeCount;
            case 4:
                return handedIn();
            case 5:
                return panel.size;
            case 6:
                return openRound;
            case 7:
                return closedRounds;
            case 8:
                return questions.size;
            case 9:
                return questions.toldNobody;
            case 10:
                return Long.bitCount(pairsSeen);
            case 11:
                return feesPaid;
            case 12:
                return stagesPaid;
            case 13:
                return tape.length;
            case 14:
                return failures;
            default:
                return NONE;
        }
    }

    private static boolean isDay(int day) {
        return day >= 0 && day <= LAST_DAY;
    }

    private static boolean isAuthor(int author) {
        return author >= 0 && author < AUTHORS;
    }

    private static boolean isRoom(int room) {
        return room >= 1 && room <= ROOMS;
    }

    private static boolean isRule(int rule) {
        return rule >= 0 && rule <= 2;
    }

    private Scheme schemeAt(int scheme) {
        return scheme >= 0 && scheme < schemeCount && scheme < schemes.length ? schemes[scheme] : null;
    }

    private Brief briefOf(Scheme scheme) {
        return briefs.on(scheme.isHandedIn() ? scheme.handedOn : today);
    }

    /** The round if it was opened; its voices are those of today while it is open. */
    private Round roundAt(int round) {
        if (round < 1 || round > 2 || round > closedRounds && round != openRound) {
            return null;
        }
        Round seen = round == 1 ? firstRound : secondRound;
        if (round == openRound) {
            seen.weighVoices(panel, schemes, today);
        }
        return seen;
    }

    private int lookAt(int a, int b) {
        Scheme one = schemeAt(a);
        Scheme two = schemeAt(b);
        if (one == null || two == null) {
            return NONE;
        }
        pairsSeen |= 1L << (b * (b - 1) / 2 + a);
        return one.alikeCells(two);
    }

    private void admitAllThatStand() {
        for (int k = 0; k < schemeCount; k++) {
            Scheme seen = schemeAt(k);
            if (seen != null && seen.isHandedIn()
                    && survey.firstBroken(seen, briefOf(seen), today) == NONE) {
                firstRound.admit(k);
            }
        }
    }

    private int handedIn() {
        int handed = 0;
        for (int k = 0; k < schemeCount; k++) {
            Scheme seen = schemeAt(k);
            if (seen != null && seen.isHandedIn()) {
                handed++;
            }
        }
        return handed;
    }

    /** The bytes that were fed and not yet used. */
    private static final class Tape {
        static final int MOST = 900;

        final int[] bytes = new int[MOST];
        int length = 0;

        boolean hasRoomFor(int more) {
            return length + more <= MOST;
        }

        boolean holds(int n) {
            return n >= 0 && n <= length;
        }

        void add(int number) {
            for (int shift = 24; shift >= 0; shift -= 8) {
                if (length >= 0 && length < bytes.length) {
                    bytes[length] = number >>> shift & 255;
                    length++;
                }
            }
        }

        /** A byte; NONE beyond the tape, which is no letter, digit, sign or blank. */
        int at(int place) {
            return place >= 0 && place < length && place < bytes.length ? bytes[place] : NONE;
        }

        void clear() {
            length = 0;
        }

        /** The first n bytes as one packed word; 0 if they are none of 1 to 8 letters. */
        long wordOf(int n) {
            if (n < 1 || n > Words.MOST_LETTERS) {
                return 0;
            }
            long word = 0;
            for (int i = 0; i < n; i++) {
                int letter = at(i);
                if (!Words.isLetter(letter)) {
                    return 0;
                }
                word = Words.join(word, letter);
            }
            return word;
        }
    }

    /**
     * Words of up to eight letters packed into a long, five bits a letter, so that they are kept
     * and compared without texts; and the words that the briefs' grammar knows, by their places
     * in HEADS, LINKS and SUBJECTS.
     */
    private static final class Words {
        static final int MOST_LETTERS = 8;
        static final int ROOM = 0;
        static final int NEAR = 1;
        static final int APART = 2;
        static final int RATE = 3;
        static final int WALL = 4;
        static final int WAY = 5;
        static final int STAIR = 6;
        static final int COST = 7;
        static final int OUT = 8;
        static final int CLOSE = 9;
        static final int KEEP = 10;
        static final int VOTE = 11;
        static final int TIE = 12;
        static final int FEE = 13;
        static final int LEAST = 14;
        static final int LIGHT = 15;
        static final int WITHIN = 16;
        static final int BY = 17;
        static final int MOST = 18;
        static final int SPAN = 19;
        static final int IF = 20;
        static final int OR = 21;
        static final int AND = 22;
        static final int NOT = 23;
        static final int FIRST = 24;
        static final int PAIR = 26;
        static final int HEAD = 27;
        static final int NUMBER = 28;
        static final int CELLS = 29;
        static final int WAYS = 30;
        static final int STAIRS = 31;
        static final int ROOMS_TOLD = 32;
        static final int DARK = 33;
        static final int LATE = 34;
        static final int STOREYS = 35;
        static final int COUNT = 36;
        static final String HEADS = "room near apart rate wall way stair cost out close keep vote tie fee ";
        static final String LINKS = "least light within by most span if or and not first rank pair head number ";
        static final String SUBJECTS = "cells ways stairs rooms dark late storeys ";

        private final long[] packed = new long[COUNT];

        Words() {
            int heads = pack(HEADS, 0);
            int links = pack(LINKS, heads);
            pack(SUBJECTS, links);
        }

        /** Packs the words of a text, each with a blank behind it; the place behind the last. */
        private int pack(String text, int from) {
            int next = from;
            long word = 0;
            for (int i = 0; i < text.length(); i++) {
                char c = text.charAt(i);
                if (c != ' ') {
                    word = join(word, c);
                } else if (next >= 0 && next < packed.length) {
                    packed[next] = word;
                    next++;
                    word = 0;
                }
            }
            return next;
        }

        int codeOf(long word) {
            for (int i = 0; i < packed.length; i++) {
                if (packed[i] == word) {
                    return i;
                }
            }
            return NONE;
        }

        static boolean isLetter(int b) {
            return b >= 'a' && b <= 'z';
        }

        static long join(long word, int letter) {
            return word * 32 + (letter - 'a' + 1);
        }

        static int lengthOf(long word) {
            int letters = 0;
            for (int i = 0; i < MOST_LETTERS; i++) {
                if (word >>> 5 * i != 0) {
                    letters++;
                }
            }
            return letters;
        }

        static int letterOf(long word, int i) {
            int letters = lengthOf(word);
            if (i < 0 || i >= letters) {
                return NONE;
            }
            return (int) (word >>> 5 * (letters - 1 - i) & 31) + 'a' - 1;
        }
    }

    /** The rooms' names; those of a text that is still being read can be dropped again. */
    private static final class RoomNames {
        final long[] words = new long[ROOMS];
        int size = 0;
        int pending = 0;

        long wordOf(int room) {
            return room >= 1 && room <= size && room <= words.length ? words[room - 1] : 0;
        }

        int find(long word) {
            for (int i = 0; i < size + pending && i < words.length; i++) {
                if (words[i] == word) {
                    return i + 1;
                }
            }
            return NONE;
        }

        int add(long word) {
            int place = size + pending;
            if (place < 0 || place >= words.length) {
                return NONE;
            }
            words[place] = word;
            pending++;
            return place + 1;
        }

        void settle(boolean taken) {
            if (taken) {
                size += pending;
            }
            pending = 0;
        }
    }

    /** A text that was read: its terms, and its statements for those who ask what breaks them. */
    private static final class Brief {
        static final int MOST_STATEMENTS = 40;
        /** Each operation comes of a word of two letters or more and what parts it from the next. */
        static final int MOST_CODE = Tape.MOST / 3;
        static final int MOST_CELLS = 160;
        static final int WALL = 0;
        static final int WAY = 1;
        static final int STAIR = 2;
        static final int SPAN = 3;
        static final int CLOSE = 4;
        static final int KEEP = 5;
        static final int VOTE = 6;
        static final int TIE = 7;
        static final int FEE = 8;
        static final int RATE_ELSE = 100;
        static final int AND = -1;
        static final int OR = -2;
        static final int NOT = -3;
        static final int[] ELSE = {10, 50, 300, 10, 1000, 3, 0, 1, 20, 30, 50};

        final int[] kinds;
        final int[] firsts;
        final int[] seconds;
        final int[] thirds;
        final int[] code;
        final int[] terms = new int[MOST_TERMS];
        final int[] rates = new int[ROOMS + 1];
        int statements = 0;
        int codeLength = 0;
        int day = 0;

        Brief(int mostStatements, int mostCode) {
            int most = Math.max(0, mostStatements);
            kinds = new int[most];
            firsts = new int[most];
            seconds = new int[most];
            thirds = new int[most];
            code = new int[Math.max(0, mostCode)];
            wipe();
        }

        void wipe() {
            statements = 0;
            codeLength = 0;
            for (int i = 0; i < terms.length && i < ELSE.length; i++) {
                terms[i] = ELSE[i];
            }
            for (int i = 0; i < rates.length; i++) {
                rates[i] = RATE_ELSE;
            }
        }

        int term(int which) {
            return which >= 0 && which < terms.length ? terms[which] : NONE;
        }

        void setTerm(int which, int value) {
            if (which >= 0 && which < terms.length) {
                terms[which] = value;
            }
        }

        int rate(int room) {
            return room >= 1 && room < rates.length ? rates[room] : NONE;
        }

        void setRate(int room, int value) {
            if (room >= 1 && room < rates.length) {
                rates[room] = value;
            }
        }

        boolean isFull() {
            return statements >= MOST_STATEMENTS;
        }

        void add(int kind, int first, int second, int third) {
            if (statements >= 0 && statements < kinds.length && statements < firsts.length
                    && statements < seconds.length && statements < thirds.length) {
                kinds[statements] = kind;
                firsts[statements] = first;
                seconds[statements] = second;
                thirds[statements] = third;
                statements++;
            }
        }

        boolean emit(int operation) {
            if (codeLength < 0 || codeLength >= code.length) {
                return false;
            }
            code[codeLength] = operation;
            codeLength++;
            return true;
        }

        /** A comparison in one number: with what, what is compared, and how. */
        static int comparison(int subject, int sign, int number) {
            return number << 8 | subject << 2 | sign - '<' & 3;
        }

        static int subjectOf(int operation) {
            return operation >>> 2 & 63;
        }

        static boolean holds(int operation, int measured) {
            int number = operation >>> 8;
            switch (operation & 3) {
                case 0:
                    return measured < number;
                case 1:
                    return measured == number;
                default:
                    return measured > number;
            }
        }

        private int leastOf(int room) {
            int least = 0;
            for (int i = 0; i < statements && i < kinds.length; i++) {
                if (kinds[i] == Words.ROOM && firsts[i] == room) {
                    least = Math.max(least, seconds[i]);
                }
            }
            return least;
        }

        /** 0: it can; 1: too many cells; 2: too dear. */
        int canBeMet() {
            long cells = 0;
            long sum = 0;
            for (int room = 1; room <= ROOMS; room++) {
                long least = leastOf(room);
                cells += least;
                sum += least * rate(room);
            }
            if (cells > MOST_CELLS) {
                return 1;
            }
            for (int i = 0; i < statements && i < kinds.length; i++) {
                if (kinds[i] == Words.COST && sum > firsts[i]) {
                    return 2;
                }
            }
            return 0;
        }
    }

    /** The briefs that were taken, in their order. */
    private static final class Briefs {
        static final int MOST = 6;

        final Brief[] texts = new Brief[MOST];
        final Brief bare = new Brief(0, 0);
        int size = 0;
        private Brief spare = null;

        boolean isFull() {
            return size >= MOST;
        }

        /** A brief to be read into; one whose text had a fault is used again. */
        Brief draft() {
            if (spare == null) {
                spare = new Brief(Brief.MOST_STATEMENTS, Brief.MOST_CODE);
            }
            return spare;
        }

        int take(Brief draft, int today) {
            if (size < 0 || size >= texts.length) {
                return FULL;
            }
            draft.day = today;
            texts[size] = draft;
            spare = null;
            size++;
            return size - 1;
        }

        int numberOn(int day) {
            for (int k = Math.min(size, texts.length) - 1; k >= 0; k--) {
                Brief text = texts[k];
                if (text != null && text.day <= day) {
                    return k;
                }
            }
            return NONE;
        }

        Brief on(int day) {
            int number = numberOn(day);
            Brief text = number >= 0 && number < texts.length ? texts[number] : null;
            return text == null ? bare : text;
        }
    }

    /**
     * Reads a brief: first the tokens, then the statements. Each part answers false with the
     * token at which it failed still in hand, so that the fault's place is where that begins.
     */
    private static final class Reader {
        static final int END = 0;
        static final int KEYWORD = 1;
        static final int NAME = 2;
        static final int DIGITS = 3;
        static final int SIGN = 4;
        static final int BAD = 5;
        static final int MOST_DIGITS = 6;
        static final int MOST_NUMBER = 999999;
        static final int MOST_PRICE = 9999;
        static final int MOST_OPEN = 10;

        private final Tape tape;
        private final RoomNames names;
        private final Words words = new Words();
        private final int[] kinds = new int[Tape.MOST + 1];
        private final int[] starts = new int[Tape.MOST + 1];
        private final long[] values = new long[Tape.MOST + 1];
        private final boolean[] told = new boolean[ROOMS + 1];
        private Brief brief = new Brief(0, 0);
        private int at = 0;
        private int taken = 0;

        Reader(Tape tape, RoomNames names) {
            this.tape = tape;
            this.names = names;
        }

        /** Where the token in hand begins; the text's length behind its last one. */
        int place() {
            return at >= 0 && at < starts.length ? starts[at] : NONE;
        }

        boolean read(int n, Brief draft) {
            brief = draft;
            brief.wipe();
            split(n);
            at = 0;
            for (int i = 0; i < told.length; i++) {
                told[i] = false;
            }
            boolean good = true;
            for (int i = 0; i <= Brief.MOST_STATEMENTS && good && !isKind(END); i++) {
                good = !brief.isFull() && statement();
            }
            names.settle(good);
            return good;
        }

        /** Tokens of the first n bytes, with an END behind them. */
        private void split(int n) {
            int next = 0;
            int count = 0;
            for (int i = 0; i < n; i++) {
                if (i >= next && !isBlank(tape.at(i)) && count < Tape.MOST) {
                    next = i + tokenAt(i, n, count);
                    count++;
                }
            }
            put(count, END, n, 0);
        }

        /** Puts the token that begins at a byte; how many bytes it has. */
        private int tokenAt(int from, int n, int token) {
            int first = tape.at(from);
            boolean letters = Words.isLetter(first);
            if (!letters && !isDigit(first)) {
                put(token, isKnownSign(first) ? SIGN : BAD, from, first);
                return 1;
            }
            int length = 0;
            long value = 0;
            for (int i = from; i < n && i - from == length; i++) {
                int b = tape.at(i);
                if (letters && Words.isLetter(b)) {
                    value = length < Words.MOST_LETTERS ? Words.join(value, b) : 0;
                    length++;
                } else if (!letters && isDigit(b)) {
                    value = length < MOST_DIGITS ? value * 10 + b - '0' : 0;
                    length++;
                }
            }
            if (length > (letters ? Words.MOST_LETTERS : MOST_DIGITS)) {
                put(token, BAD, from, 0);
            } else if (!letters) {
                put(token, DIGITS, from, value);
            } else {
                int keyword = words.codeOf(value);
                put(token, keyword == NONE ? NAME : KEYWORD, from, keyword == NONE ? value : keyword);
            }
            return length;
        }

        private void put(int token, int kind, int start, long value) {
            if (token >= 0 && token < kinds.length && token < starts.length && token < values.length) {
                kinds[token] = kind;
                starts[token] = start;
                values[token] = value;
            }
        }

        private boolean statement() {
            int head = keyword();
            switch (head) {
                case Words.ROOM:
                    return roomText();
                case Words.NEAR:
                    return pairText(head, Words.WITHIN);
                case Words.APART:
                    return pairText(head, Words.BY);
                case Words.RATE:
                    return rateText();
                case Words.WALL:
                    return termText(head, Brief.WALL, 0, MOST_PRICE);
                case Words.WAY:
                    return termText(head, Brief.WAY, 0, MOST_PRICE);
                case Words.STAIR:
                    return termText(head, Brief.STAIR, 0, MOST_PRICE);
                case Words.COST:
                    return costText();
                case Words.OUT:
                    return outText();
                case Words.CLOSE:
                    return termText(head, Brief.CLOSE, 0, MOST_NUMBER);
                case Words.KEEP:
                    return termText(head, Brief.KEEP, 1, 10);
                case Words.VOTE:
                    return choiceText(head, Brief.VOTE, Words.FIRST, Words.PAIR);
                case Words.TIE:
                    return choiceText(head, Brief.TIE, Words.HEAD, Words.NUMBER);
                case Words.FEE:
                    return feeText();
                default:
                    return false;
            }
        }

        private boolean roomText() {
            at++;
            if (!takeNewName()) {
                return false;
            }
            int room = taken;
            if (!takeWord(Words.LEAST) || !takeNumber(0, MOST_NUMBER)) {
                return false;
            }
            int least = taken;
            int light = 0;
            if (takeWord(Words.LIGHT)) {
                if (!takeNumber(0, MOST_NUMBER)) {
                    return false;
                }
                light = taken;
            }
            return endOf(Words.ROOM, room, least, light);
        }

        private boolean pairText(int head, int link) {
            at++;
            if (!takeToldName()) {
                return false;
            }
            int one = taken;
            if (!takeToldName()) {
                return false;
            }
            int two = taken;
            if (!takeWord(link) || !takeNumber(0, MOST_NUMBER)) {
                return false;
            }
            return endOf(head, one, two, taken);
        }

        private boolean rateText() {
            at++;
            if (!takeToldName()) {
                return false;
            }
            int room = taken;
            if (!takeNumber(0, MOST_PRICE)) {
                return false;
            }
            brief.setRate(room, taken);
            return endOf(Words.RATE, 0, 0, 0);
        }

        private boolean termText(int head, int term, int low, int high) {
            at++;
            if (!takeNumber(low, high)) {
                return false;
            }
            brief.setTerm(term, taken);
            return endOf(head, 0, 0, 0);
        }

        private boolean costText() {
            at++;
            if (!takeWord(Words.MOST) || !takeNumber(0, MOST_NUMBER)) {
                return false;
            }
            int most = taken;
            if (takeWord(Words.SPAN)) {
                if (!takeNumber(0, 50)) {
                    return false;
                }
                brief.setTerm(Brief.SPAN, taken);
            }
            return endOf(Words.COST, most, 0, 0);
        }

        private boolean outText() {
            at++;
            if (!takeWord(Words.IF)) {
                return false;
            }
            int from = brief.codeLength;
            return any(0) && endOf(Words.OUT, from, brief.codeLength, 0);
        }

        private boolean choiceText(int head, int term, int first, int last) {
            at++;
            int choice = keyword();
            if (choice < first || choice > last) {
                return false;
            }
            at++;
            brief.setTerm(term, choice - first);
            return endOf(head, 0, 0, 0);
        }

        private boolean feeText() {
            at++;
            for (int stage = 0; stage < STAGES; stage++) {
                if (!takeNumber(0, 100)) {
                    return false;
                }
                brief.setTerm(Brief.FEE + stage, taken);
            }
            return endOf(Words.FEE, 0, 0, 0);
        }

        private boolean endOf(int head, int first, int second, int third) {
            if (!takeSign(';')) {
                return false;
            }
            brief.add(head, first, second, third);
            return true;
        }

        private boolean any(int open) {
            boolean good = all(open);
            for (int i = 0; i < Tape.MOST && good && takeWord(Words.OR); i++) {
                good = all(open) && brief.emit(Brief.OR);
            }
            return good;
        }

        private boolean all(int open) {
            boolean good = one(open);
            for (int i = 0; i < Tape.MOST && good && takeWord(Words.AND); i++) {
                good = one(open) && brief.emit(Brief.AND);
            }
            return good;
        }

        private boolean one(int open) {
            boolean negated = keyword() == Words.NOT;
            if (!negated && !isSign('(')) {
                return comparison();
            }
            if (open >= MOST_OPEN) {
                return false;
            }
            at++;
            if (negated) {
                return one(open + 1) && brief.emit(Brief.NOT);
            }
            return any(open + 1) && takeSign(')');
        }

        private boolean comparison() {
            int subject = keyword();
            if (subject != Words.COST && (subject < Words.CELLS || subject > Words.STOREYS)) {
                return false;
            }
            at++;
            int sign = '=';
            if (isSign('<')) {
                sign = '<';
            } else if (isSign('>')) {
                sign = '>';
            }
            return takeSign(sign) && takeNumber(0, MOST_NUMBER)
                    && brief.emit(Brief.comparison(subject, sign, taken));
        }

        private boolean isKind(int kind) {
            return at >= 0 && at < kinds.length && kinds[at] == kind;
        }

        private boolean isToken(int kind, int value) {
            return at >= 0 && at < kinds.length && at < values.length
                    && kinds[at] == kind && values[at] == value;
        }

        private long value() {
            return at >= 0 && at < values.length ? values[at] : NONE;
        }

        private int keyword() {
            return isKind(KEYWORD) ? (int) value() : NONE;
        }

        private boolean isSign(int sign) {
            return isToken(SIGN, sign);
        }

        private boolean takeSign(int sign) {
            boolean fits = isToken(SIGN, sign);
            at += fits ? 1 : 0;
            return fits;
        }

        private boolean takeWord(int which) {
            boolean fits = isToken(KEYWORD, which);
            at += fits ? 1 : 0;
            return fits;
        }

        private boolean takeNumber(int low, int high) {
            if (!isKind(DIGITS) || value() < low || value() > high) {
                return false;
            }
            taken = (int) value();
            at++;
            return true;
        }

        private boolean takeNewName() {
            if (!isKind(NAME)) {
                return false;
            }
            int room = names.find(value());
            if (room == NONE) {
                room = names.add(value());
            }
            if (room < 1 || room >= told.length) {
                return false;
            }
            told[room] = true;
            taken = room;
            at++;
            return true;
        }

        private boolean takeToldName() {
            int room = isKind(NAME) ? names.find(value()) : NONE;
            if (room < 1 || room >= told.length || !told[room]) {
                return false;
            }
            taken = room;
            at++;
            return true;
        }

        private static boolean isBlank(int b) {
            return b == 32 || b == 10;
        }

        private static boolean isDigit(int b) {
            return b >= '0' && b <= '9';
        }

        private static boolean isKnownSign(int b) {
            return b == ';' || b == '(' || b == ')' || b == '<' || b == '>' || b == '=';
        }
    }

    /**
     * A drawing. Round each storey lies a border of nothing, so that every cell has four beside
     * it; counts and walls are kept as it's drawn, as mend() draws thousands of trials.
     */
    private static final class Scheme {
        static final int WIDE = 10;
        static final int HIGH = 8;
        static final int STOREYS = 2;
        static final int LINE = WIDE + 2;
        static final int STOREY = LINE * (HIGH + 2);
        static final int PLACES = STOREYS * STOREY;
        /** Before the first place that isn't border, and behind the last one. */
        static final int FROM = LINE + 1;
        static final int TO = PLACES - LINE - 1;
        static final int NOTHING = 0;
        static final int WAY = 13;
        static final int STAIR = 14;
        static final int THINGS = 15;
        /** Up, right, down, left. */
        static final int[] BESIDE = {-12, 1, 12, -1};

        final int author;
        int handedOn = NONE;
        final int[] cells = new int[PLACES];
        final int[] counts = new int[THINGS];
        final int[] filled = new int[STOREYS];
        int walls = 0;

        Scheme(int author) {
            this.author = author;
        }

        boolean isHandedIn() {
            return handedOn != NONE;
        }

        static boolean isThing(int what) {
            return what >= NOTHING && what < THINGS;
        }

        static boolean isCell(int storey, int x, int y) {
            return storey >= 0 && storey < STOREYS && x >= 0 && x < WIDE && y >= 0 && y < HIGH;
        }

        /** Whether a place is a cell and not of the border. */
        static boolean isInside(int place) {
            int line = place % STOREY / LINE - 1;
            int column = place % LINE - 1;
            return place >= 0 && place < PLACES && line >= 0 && line < HIGH && column >= 0 && column < WIDE;
        }

        static int placeOf(int storey, int x, int y) {
            return storey * STOREY + (y + 1) * LINE + x + 1;
        }

        int thingAt(int place) {
            return place >= 0 && place < cells.length ? cells[place] : NOTHING;
        }

        int countOf(int what) {
            return what >= 0 && what < counts.length ? counts[what] : 0;
        }

        int allCells() {
            return filled[0] + filled[1];
        }

        int roomsWithCells() {
            int rooms = 0;
            for (int room = 1; room <= ROOMS && room < counts.length; room++) {
                rooms += counts[room] > 0 ? 1 : 0;
            }
            return rooms;
        }

        int storeysWithCells() {
            return (filled[0] > 0 ? 1 : 0) + (filled[1] > 0 ? 1 : 0);
        }

        void put(int place, int what) {
            if (place < FROM || place >= TO || !isThing(what)) {
                return;
            }
            int old = cells[place];
            int storey = place < STOREY ? 0 : 1;
            for (int side = 0; side < BESIDE.length; side++) {
                int beside = thingAt(place + BESIDE[side]);
                walls += (what != beside ? 1 : 0) - (old != beside ? 1 : 0);
            }
            if (isThing(old)) {
                counts[old]--;
            }
            counts[what]++;
            filled[storey] += (what != NOTHING ? 1 : 0) - (old != NOTHING ? 1 : 0);
            cells[place] = what;
        }

        int costBy(Brief brief) {
            int sum = walls * brief.term(Brief.WALL) + countOf(WAY) * brief.term(Brief.WAY)
                    + countOf(STAIR) * brief.term(Brief.STAIR);
            for (int room = 1; room <= ROOMS; room++) {
                sum += countOf(room) * brief.rate(room);
            }
            return sum;
        }

        int alikeCells(Scheme other) {
            int best = 0;
            for (int turn = 0; turn < 4; turn++) {
                best = Math.max(best, alikeCellsTurned(other, (turn & 1) != 0, (turn & 2) != 0));
            }
            return best;
        }

        private int alikeCellsTurned(Scheme other, boolean leftForRight, boolean upsideDown) {
            int same = 0;
            for (int y = 0; y < HIGH; y++) {
                for (int x = 0; x < WIDE; x++) {
                    int mine = thingAt(placeOf(0, x, y));
                    int u = leftForRight ? WIDE - 1 - x : x;
                    int v = upsideDown ? HIGH - 1 - y : y;
                    if (mine != NOTHING && mine == other.thingAt(placeOf(0, u, v))) {
                        same++;
                    }
                }
            }
            return same;
        }
    }

    /** Measures schemes: light, steps, what throws one out and the change that would let it in. */
    private static final class Survey {
        static final int SIDES = 4;
        static final int PARTS = 5;

        private final int[] sun = {4, 6, 8, 6};
        private final int[] queue = new int[Brief.MOST_CELLS];
        private final int[] reached = new int[Scheme.PLACES];
        private final int[] mended = new int[PARTS];
        /** Whose mend was sought last, if nothing has changed since; a search is dear. */
        private int mendedScheme = NONE;

        void setSun(int side, int hours) {
            if (side >= 0 && side < sun.length) {
                sun[side] = hours;
            }
        }

        void forgetMend() {
            mendedScheme = NONE;
        }

        int mendPart(int what) {
            return what >= 0 && what < mended.length ? mended[what] : NONE;
        }

        int lightOf(Scheme scheme, int room) {
            int light = 0;
            for (int i = Scheme.FROM; i < Scheme.TO; i++) {
                if (scheme.thingAt(i) == room) {
                    light = Math.max(light, lightAt(scheme, i));
                }
            }
            return light;
        }

        private int lightAt(Scheme scheme, int place) {
            int light = 0;
            int[] cells = scheme.cells;
            for (int side = 0; side < sun.length && side < Scheme.BESIDE.length; side++) {
                int beside = place + Scheme.BESIDE[side];
                if (beside >= 0 && beside < cells.length && cells[beside] == Scheme.NOTHING) {
                    light = Math.max(light, sun[side]);
                }
            }
            return light;
        }

        private int darkRooms(Scheme scheme) {
            int lit = 0;
            for (int i = Scheme.FROM; i < Scheme.TO; i++) {
                int room = scheme.thingAt(i);
                if (room >= 1 && room <= ROOMS && (lit >>> room & 1) == 0 && lightAt(scheme, i) > 0) {
                    lit |= 1 << room;
                }
            }
            return scheme.roomsWithCells() - Integer.bitCount(lit);
        }

        /** The steps of two rooms; NONE if there are none or more than so many. */
        int stepsWithin(Scheme scheme, int room, int other, int most) {
            if (scheme.countOf(room) == 0 || scheme.countOf(other) == 0 || most < 0) {
                return NONE;
            }
            if (room == other) {
                return 0;
            }
            int waiting = 0;
            for (int i = 0; i < reached.length; i++) {
                boolean begins = scheme.thingAt(i) == room;
                reached[i] = begins ? 0 : NONE;
                if (begins && waiting < queue.length) {
                    queue[waiting] = i;
                    waiting++;
                }
            }
            return walk(scheme, other, waiting, most);
        }

        /** From the places that wait in the queue to the nearest one of a room. */
        private int walk(Scheme scheme, int room, int begun, int most) {
            int waiting = begun;
            for (int next = 0; next < waiting && next < queue.length; next++) {
                int from = queue[next];
                int far = from >= 0 && from < reached.length ? reached[from] : most;
                // The queue holds the nearer ones first: behind this one none goes on either.
                if (far >= most) {
                    return NONE;
                }
                for (int way = 0; way <= SIDES; way++) {
                    int to = stepFrom(scheme, from, way);
                    if (to < 0 || to >= reached.length || reached[to] != NONE) {
                        continue;
                    }
                    if (scheme.thingAt(to) == room) {
                        return far + 1;
                    }
                    reached[to] = far + 1;
                    if (waiting < queue.length) {
                        queue[waiting] = to;
                        waiting++;
                    }
                }
            }
            return NONE;
        }

        /** Where a step by a side (or, behind the sides, by a stair) leads; NONE if there is none. */
        private static int stepFrom(Scheme scheme, int from, int way) {
            int here = scheme.thingAt(from);
            if (way < 0 || way >= Scheme.BESIDE.length) {
                int across = from < Scheme.STOREY ? from + Scheme.STOREY : from - Scheme.STOREY;
                return here == Scheme.STAIR && scheme.thingAt(across) == Scheme.STAIR ? across : NONE;
            }
            int to = from + Scheme.BESIDE[way];
            int there = scheme.thingAt(to);
            if (here == Scheme.NOTHING || there == Scheme.NOTHING) {
                return NONE;
            }
            return here == there || here >= Scheme.WAY || there >= Scheme.WAY ? to : NONE;
        }

        int firstBroken(Scheme scheme, Brief brief, int today) {
            for (int i = 0; i < brief.statements; i++) {
                if (breaks(scheme, brief, i, today)) {
                    return i;
                }
            }
            return NONE;
        }

        private boolean breaks(Scheme scheme, Brief brief, int statement, int today) {
            if (statement < 0 || statement >= brief.kinds.length || statement >= brief.firsts.length
                    || statement >= brief.seconds.length || statement >= brief.thirds.length) {
                return false;
            }
            int first = brief.firsts[statement];
            int second = brief.seconds[statement];
            int third = brief.thirds[statement];
            switch (brief.kinds[statement]) {
                case Words.ROOM:
                    return scheme.countOf(first) < second || third > 0 && lightOf(scheme, first) < third;
                case Words.NEAR:
                    return stepsWithin(scheme, first, second, third) == NONE;
                case Words.APART:
                    return stepsWithin(scheme, first, second, third - 1) != NONE;
                case Words.COST:
                    return scheme.costBy(brief) > first;
                case Words.OUT:
                    return throwsOut(scheme, brief, first, second, today);
                default:
                    return false;
            }
        }

        /** Works out an "out" with a stack of bits; its nesting keeps that far below 64. */
        private boolean throwsOut(Scheme scheme, Brief brief, int from, int to, int today) {
            long stack = 0;
            for (int i = Math.max(0, from); i < to && i < brief.code.length; i++) {
                int operation = brief.code[i];
                if (operation == Brief.NOT) {
                    stack ^= 1;
                } else if (operation < 0) {
                    long top = stack & 1;
                    stack >>>= 1;
                    stack = operation == Brief.OR ? stack | top : stack & (top | ~1L);
                } else {
                    int measured = measure(Brief.subjectOf(operation), scheme, brief, today);
                    stack = stack << 1 | (Brief.holds(operation, measured) ? 1 : 0);
                }
            }
            return (stack & 1) != 0;
        }

        private int measure(int subject, Scheme scheme, Brief brief, int today) {
            switch (subject) {
                case Words.CELLS:
                    return scheme.allCells();
                case Words.COST:
                    return scheme.costBy(brief);
                case Words.WAYS:
                    return scheme.countOf(Scheme.WAY);
                case Words.STAIRS:
                    return scheme.countOf(Scheme.STAIR);
                case Words.ROOMS_TOLD:
                    return scheme.roomsWithCells();
                case Words.DARK:
                    return darkRooms(scheme);
                case Words.LATE:
                    return (scheme.isHandedIn() ? scheme.handedOn : today) > brief.term(Brief.CLOSE) ? 1 : 0;
                default:
                    return scheme.storeysWithCells();
            }
        }

        void seekMend(int number, Scheme scheme, Brief brief, int today) {
            if (number == mendedScheme) {
                return;
            }
            mendedScheme = number;
            int broken = firstBroken(scheme, brief, today);
            setMend(broken == NONE ? 0 : 2, NONE, NONE);
            int trials = Scheme.PLACES * Scheme.THINGS;
            for (int trial = 0; trial < trials && broken != NONE; trial++) {
                int place = trial / Scheme.THINGS;
                int what = trial % Scheme.THINGS;
                int old = scheme.thingAt(place);
                if (what == old || !Scheme.isInside(place)) {
                    continue;
                }
                scheme.put(place, what);
                // What broke last breaks most likely again, and asking it first spares the rest.
                if (!breaks(scheme, brief, broken, today)) {
                    broken = firstBroken(scheme, brief, today);
                }
                scheme.put(place, old);
                if (broken == NONE) {
                    setMend(1, place, what);
                }
            }
        }

        private void setMend(int changes, int place, int what) {
            boolean told = place != NONE;
            mended[0] = changes;
            mended[1] = told ? place / Scheme.STOREY : NONE;
            mended[2] = told ? place % Scheme.LINE - 1 : NONE;
            mended[3] = told ? place % Scheme.STOREY / Scheme.LINE - 1 : NONE;
            mended[4] = what;
        }
    }

    /** The authors' names and the questions that were answered. */
    private static final class Questions {
        static final int MOST = 50;

        private final long[] authorNames = new long[AUTHORS];
        private final int[] days = new int[MOST];
        private final int[] answers = new int[MOST];
        private final int[] wordCounts = new int[MOST];
        int size = 0;
        int toldNobody = 0;

        boolean isFull() {
            return size >= MOST;
        }

        void nameAuthor(int author, long word) {
            if (author >= 0 && author < authorNames.length) {
                authorNames[author] = word;
            }
        }

        /** The number of the question of the tape's first n bytes; NONE if it tells a name. */
        int put(Tape tape, int n, int answer, int today) {
            int wordCount = 0;
            int letters = 0;
            long word = 0;
            boolean tells = false;
            for (int i = 0; i <= n; i++) {
                int b = i < n ? tape.at(i) : NONE;
                if (Words.isLetter(b)) {
                    word = letters < Words.MOST_LETTERS ? Words.join(word, b) : 0;
                    letters++;
                } else if (letters > 0) {
                    tells |= letters <= Words.MOST_LETTERS && isName(word);
                    wordCount++;
                    letters = 0;
                    word = 0;
                }
            }
            if (tells) {
                toldNobody++;
                return NONE;
            }
            return keep(today, answer, wordCount);
        }

        private int keep(int today, int answer, int wordCount) {
            if (size < 0 || size >= days.length || size >= answers.length || size >= wordCounts.length) {
                return NOT_DONE;
            }
            days[size] = today;
            answers[size] = answer;
            wordCounts[size] = wordCount;
            size++;
            return size - 1;
        }

        private boolean isName(long word) {
            for (int i = 0; i < authorNames.length; i++) {
                if (authorNames[i] == word) {
                    return true;
                }
            }
            return false;
        }

        int part(int question, int what) {
            if (question < 0 || question >= size || question >= days.length
                    || question >= answers.length || question >= wordCounts.length) {
                return NONE;
            }
            switch (what) {
                case 0:
                    return days[question];
                case 1:
                    return answers[question];
                case 2:
                    return wordCounts[question];
                default:
                    return NONE;
            }
        }
    }

    /** The jurors and the days from which they know authors. */
    private static final class Panel {
        static final int MOST = 7;
        static final int NEVER = LAST_DAY + 1;

        private final int[] since = new int[MOST * AUTHORS];
        int size = 0;

        Panel() {
            for (int i = 0; i < since.length; i++) {
                since[i] = NEVER;
            }
        }

        int add() {
            if (size >= MOST) {
                return NONE;
            }
            size++;
            return size - 1;
        }

        boolean has(int juror) {
            return juror >= 0 && juror < size;
        }

        void tell(int juror, int author, int day) {
            int place = juror * AUTHORS + author;
            if (place >= 0 && place < since.length) {
                since[place] = Math.min(since[place], day);
            }
        }

        boolean knowsBy(int juror, int author, int day) {
            int place = juror * AUTHORS + author;
            return place >= 0 && place < since.length && since[place] <= day;
        }
    }

    /** A round: the schemes in it, the jurors' rows, the voices that count, and its order. */
    private static final class Round {
        static final int FIRST = 0;
        static final int RANK = 1;
        static final int HEAD = 0;
        static final int BASE_BITS = 4;

        private final boolean[] in = new boolean[MOST_SCHEMES];
        /** Row by row what the jurors marked, the first the best. */
        private final int[] rows = new int[Panel.MOST * MOST_SCHEMES];
        private final int[] lengths = new int[Panel.MOST];
        private final boolean[] voices = new boolean[Panel.MOST];
        private final int[] scores = new int[MOST_SCHEMES];
        private final int[] ranked = new int[MOST_SCHEMES];
        int size = 0;
        int rule = 0;
        private int tie = 0;

        void admit(int scheme) {
            if (scheme >= 0 && scheme < in.length && !in[scheme]) {
                in[scheme] = true;
                size++;
            }
        }

        boolean has(int scheme) {
            return scheme >= 0 && scheme < in.length && in[scheme];
        }

        boolean counts(int juror) {
            return juror >= 0 && juror < voices.length && voices[juror];
        }

        /** How many schemes a row of marks has; NONE, with nothing done, if it isn't one. */
        int mark(int juror, long row, int schemeCount) {
            int most = BASE_BITS * MOST_SCHEMES;
            if (juror < 0 || juror >= lengths.length || row < 0 || row >>> most != 0) {
                return NONE;
            }
            int seen = 0;
            for (int shift = most - BASE_BITS; shift >= 0; shift -= BASE_BITS) {
                int digit = (int) (row >>> shift & 15);
                boolean ahead = digit == 0 && seen == 0;
                if (!ahead && (digit == 0 || digit > schemeCount || (seen >>> digit & 1) != 0)) {
                    return NONE;
                }
                seen |= ahead ? 0 : 1 << digit;
            }
            int length = Integer.bitCount(seen);
            for (int i = 0; i < length; i++) {
                int shift = BASE_BITS * (length - 1 - i);
                setMark(juror, i, (int) (row >>> shift & 15) - 1);
            }
            lengths[juror] = length;
            return length;
        }

        private void setMark(int juror, int i, int scheme) {
            int place = juror * MOST_SCHEMES + i;
            if (place >= 0 && place < rows.length) {
                rows[place] = scheme;
            }
        }

        private int lengthOf(int juror) {
            return juror >= 0 && juror < lengths.length ? lengths[juror] : 0;
        }

        private int markAt(int juror, int i) {
            int place = juror * MOST_SCHEMES + i;
            return place >= 0 && place < rows.length ? rows[place] : NONE;
        }

        void weighVoices(Panel panel, Scheme[] schemes, int today) {
            for (int juror = 0; juror < voices.length; juror++) {
                voices[juror] = panel.has(juror) && !isBiased(juror, panel, schemes, today);
            }
        }

        private boolean isBiased(int juror, Panel panel, Scheme[] schemes, int today) {
            for (int i = 0; i < lengthOf(juror); i++) {
                int number = markAt(juror, i);
                Scheme scheme = number >= 0 && number < schemes.length ? schemes[number] : null;
                if (scheme != null && has(number) && panel.knowsBy(juror, scheme.author, today)) {
                    return true;
                }
            }
            return false;
        }

        int pointsBy(int wanted, int scheme) {
            int sum = 0;
            switch (wanted) {
                case FIRST:
                    for (int juror = 0; juror < voices.length; juror++) {
                        sum += counts(juror) && placeIn(juror, scheme) == 0 ? 1 : 0;
                    }
                    return sum;
                case RANK:
                    for (int juror = 0; juror < voices.length; juror++) {
                        sum += counts(juror) ? size - placeIn(juror, scheme) : 0;
                    }
                    return sum;
                default:
                    for (int other = 0; other < in.length; other++) {
                        sum += other != scheme && in[other] ? pairPoints(scheme, other) : 0;
                    }
                    return sum;
            }
        }

        /** A scheme's place in a row among those in the round; their number, if it isn't there. */
        private int placeIn(int juror, int scheme) {
            int place = 0;
            for (int i = 0; i < lengthOf(juror); i++) {
                int number = markAt(juror, i);
                if (number == scheme) {
                    return place;
                }
                place += has(number) ? 1 : 0;
            }
            return size;
        }

        private int pairPoints(int scheme, int other) {
            int lead = 0;
            for (int juror = 0; juror < voices.length; juror++) {
                if (counts(juror)) {
                    lead += Integer.compare(placeIn(juror, other), placeIn(juror, scheme));
                }
            }
            if (lead > 0) {
                return 2;
            }
            return lead == 0 ? 1 : 0;
        }

        /** Rule and tie as it's closed. */
        void finish(int closingRule, int closingTie) {
            rule = closingRule;
            tie = closingTie;
        }

        int rankedAt(int wanted, int k) {
            if (k < 0 || k >= size || k >= ranked.length) {
                return NONE;
            }
            rankAll(wanted);
            return ranked[k];
        }

        private void rankAll(int wanted) {
            int sorted = 0;
            for (int scheme = 0; scheme < in.length && scheme < scores.length; scheme++) {
                if (in[scheme]) {
                    scores[scheme] = pointsBy(wanted, scheme);
                    insert(scheme, sorted);
                    sorted++;
                }
            }
        }

        private void insert(int scheme, int sorted) {
            int place = sorted;
            for (int i = sorted - 1; i >= 0 && i + 1 < ranked.length; i--) {
                if (place == i + 1 && isAhead(scheme, ranked[i])) {
                    ranked[i + 1] = ranked[i];
                    place = i;
                }
            }
            if (place >= 0 && place < ranked.length) {
                ranked[place] = scheme;
            }
        }

        /** Whether a scheme goes ahead of one with a lesser number. */
        private boolean isAhead(int scheme, int lesser) {
            int lead = Integer.compare(scoreOf(scheme), scoreOf(lesser));
            if (lead == 0 && tie == HEAD) {
                lead = Integer.compare(placeIn(0, lesser), placeIn(0, scheme));
            }
            return lead > 0;
        }

        private int scoreOf(int scheme) {
            return scheme >= 0 && scheme < scores.length ? scores[scheme] : 0;
        }

        /** Admits the best, and those with as many points as the last of them, to the next. */
        int keepBest(int keep, Round next) {
            rankAll(rule);
            int last = Math.min(keep, size) - 1;
            int least = last >= 0 && last < ranked.length ? scoreOf(ranked[last]) : 0;
            for (int k = 0; k < size && k < ranked.length; k++) {
                if (scoreOf(ranked[k]) >= least) {
                    next.admit(ranked[k]);
                }
            }
            return next.size;
        }
    }
}
