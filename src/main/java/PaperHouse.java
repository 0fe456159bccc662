/**
 * A house of paper: rolls, folded sheets, plates, a press, type, piles, letters and jobs.
 *
 * <p>Each part is a class of its own in here, with the rows it needs made once, so that no call makes an object.
 */
public final class PaperHouse {
    public static final int NONE = -1;
    public static final int STATE = -3;
    public static final int FULL = -4;

    private static final int NEWLINE = 10;
    private static final int BLANK = 32;
    private static final int MOST_SHEETS = 8;
    private static final int MOST_MARKS = 20;

    private final Tape tape;
    private final Rolls rolls;
    private final Folding folding;
    private final Plates plates;
    private final Press press;
    private final TypeRoom typeRoom;
    private final MailList mail;
    private final Bundler bundler;
    private final Workshop workshop;
    private Pile pile;
    private Pile sparePile;

    public PaperHouse() {
        tape = new Tape();
        rolls = new Rolls();
        folding = new Folding();
        plates = new Plates();
        press = new Press();
        typeRoom = new TypeRoom();
        mail = new MailList();
        bundler = new Bundler();
        workshop = new Workshop();
        pile = new Pile();
        sparePile = new Pile();
    }

    public int feed(int a, int b, int c, int d, int e) {
        if (!tape.hasRoomFor(20)) {
            return FULL;
        }
        tape.append(a);
        tape.append(b);
        tape.append(c);
        tape.append(d);
        tape.append(e);
        return tape.length();
    }

    public int end(int n) {
        return tape.shorten(n);
    }

    // ---- rolls

    public int cut() {
        tape.open();
        return tape.close(rolls.takeText(tape));
    }

    public int pattern(int i, int k) {
        return rolls.tell(i, k);
    }

    // ---- folding

    public int fold() {
        tape.open();
        return tape.close(folding.takeText(tape));
    }

    public int book(int sheets, int way, int caliper) {
        return folding.bind(sheets, way, caliper);
    }

    public int page(int s, int side, int row, int column) {
        if (!folding.hasPanel(s, side, row, column)) {
            return NONE;
        }
        int plain = folding.pageOn(s, side, row, column);
        return folding.isUpsideDown(row, column) ? plain + 1000 : plain;
    }

    public int where(int page, int what) {
        return folding.find(page, what);
    }

    // ---- plates

    public int draw(int page) {
        if (page < 0 || page >= Plates.PAGES) {
            return NONE;
        }
        tape.open();
        return tape.close(plates.takeText(tape, page));
    }

    public int point(int s, int side, int x, int y) {
        return plates.pointAt(folding, s, side, x, y);
    }

    // ---- the press

    public int mount(int s, int side) {
        if (!folding.hasSide(s, side)) {
            return NONE;
        }
        int zones = folding.columns();
        press.clear(zones);
        for (int z = 0; z < zones; z++) {
            press.cover(z, plates.coverageOf(folding, s, side, z), folding.rows());
        }
        return zones;
    }

    public int key(int zone, int v) {
        return press.turnKey(zone, v);
    }

    public int aim(int density, int tolerance, int spoiled) {
        return press.aimAt(density, tolerance, spoiled);
    }

    public int settled(int zone) {
        return press.settledKey(zone);
    }

    public int print(int n) {
        return press.printMany(n);
    }

    public int good(int n) {
        return press.printTill(n);
    }

    public int zone(int zone, int what) {
        return press.tellZone(zone, what);
    }

    public int number(int k) {
        return press.numberOf(k);
    }

    // ---- type

    public int sorts(int letter, int many, int width) {
        return typeRoom.stockUp(letter, many, width);
    }

    public int set(int measure) {
        if (measure < 20 || measure > 200) {
            return NONE;
        }
        tape.open();
        return tape.close(typeRoom.takeText(tape, measure));
    }

    public int distribute(int line) {
        return typeRoom.putBack(line);
    }

    public int line(int line, int what) {
        return typeRoom.tellLine(line, what);
    }

    public int strip(int line, int i) {
        return typeRoom.tellStrip(line, i);
    }

    public int left(int letter) {
        return typeRoom.stockOf(letter);
    }

    // ---- piles

    public int pile(int w, int h) {
        if (w < 1 || w > 999 || h < 1 || h > 999) {
            return NONE;
        }
        tape.open();
        int pieces = sparePile.takeText(tape, w, h);
        if (tape.isRight()) {
            Pile cutApart = sparePile;
            sparePile = pile;
            pile = cutApart;
        }
        return tape.close(pieces);
    }

    public int piece(int k, int what) {
        return pile.tell(k, what);
    }

    public int on(int x, int y) {
        return pile.pieceAt(x, y);
    }

    public int gather() {
        tape.open();
        int sheets = folding.sheets();
        int marks = 0;
        int off = 0;
        do {
            marks++;
            int mark = tape.readNumber(1, MOST_SHEETS);
            if (off == 0 && (marks > sheets || mark != marks)) {
                off = marks;
            }
        } while (marks < MOST_MARKS && tape.takes(BLANK));
        tape.expect(NEWLINE);
        tape.finish();
        if (off == 0 && marks < sheets) {
            off = marks + 1;
        }
        return tape.close(off);
    }

    // ---- letters

    public int letters() {
        tape.open();
        int answer = mail.takeText(tape);
        bundler.outdate();
        return tape.close(answer);
    }

    public int bundles(int least, int most) {
        if (least < 1 || most > 30 || least > most) {
            return NONE;
        }
        bundler.limit(least, most);
        return bundler.howMany(mail);
    }

    public int letter(int i, int what) {
        if (what == 2) {
            return bundler.bundleOf(mail, i);
        }
        return mail.tell(i, what);
    }

    public int bundle(int k, int what) {
        return bundler.tell(mail, k, what);
    }

    public int strike(int i) {
        int answer = mail.remove(i);
        bundler.outdate();
        return answer;
    }

    // ---- jobs

    public int job(int colour, int print, int bind, int due) {
        return workshop.add(colour, print, bind, due);
    }

    public int times(int change, int dry) {
        return workshop.allow(change, dry);
    }

    public int drop(int job) {
        return workshop.remove(job);
    }

    public int order(int k) {
        return workshop.jobAt(k);
    }

    public int when(int job, int what) {
        return workshop.tell(job, what);
    }

    public int count(int what) {
        switch (what) {
            case 0:
                return workshop.lateInAll();
            case 1:
                return workshop.lastEnd();
            case 2:
                return workshop.changesOfColour();
            case 3:
                return rolls.inPlan();
            case 4:
                return rolls.lostInAll();
            case 5:
                return folding.leaves();
            case 6:
                return folding.sheets();
            case 7:
                return press.sheetsPrinted();
            case 8:
                return press.sheetsGood();
            case 9:
                return typeRoom.linesStanding();
            case 10:
                return pile.howMany();
            case 11:
                return mail.howMany();
            case 12:
                return bundler.howMany(mail);
            case 13:
                return workshop.howMany();
            default:
                return NONE;
        }
    }

    /**
     * THE TAPE, and the reading of texts from it. The first fault that is found stays, and nothing is read behind it,
     * so that a text can be read to its end without a look at each step; what was read counts if the tape is right.
     */
    private static final class Tape {
        private static final int ROOM = 1600;
        private static final int RIGHT = -1;
        private static final int NO_BYTE = -1;
        private static final int MOST_DIGITS = 6;

        private final int[] bytes;
        private int size;
        private int at;
        private int from;
        private int fault;

        Tape() {
            bytes = new int[ROOM];
            fault = RIGHT;
        }

        int length() {
            return size;
        }

        boolean hasRoomFor(int more) {
            return size + more <= bytes.length;
        }

        void append(int four) {
            for (int shift = 24; shift >= 0; shift -= 8) {
                if (size < bytes.length) {
                    bytes[size] = (four >>> shift) & 255;
                    size++;
                }
            }
        }

        int shorten(int n) {
            if (n < 0 || n > size) {
                return NONE;
            }
            size = n;
            return n;
        }

        void open() {
            at = 0;
            from = 0;
            fault = RIGHT;
        }

        /** Empties the tape; the answer of the text's call is WRONG ahead of what the reader made of it. */
        int close(int answer) {
            size = 0;
            return isRight() ? answer : -1000 - fault;
        }

        boolean isRight() {
            return fault == RIGHT;
        }

        boolean hasMore() {
            return fault == RIGHT && at < size;
        }

        int place() {
            return at;
        }

        int byteAt(int place) {
            return place >= 0 && place < size ? bytes[place] : NO_BYTE;
        }

        /** The byte to be read; none behind a fault. */
        int next() {
            return fault == RIGHT && at < size ? bytes[at] : NO_BYTE;
        }

        void blame(int place) {
            if (fault == RIGHT) {
                fault = place;
            }
        }

        /** The latest NUMBER or WORD is wrong as a whole. */
        void blameToken() {
            blame(from);
        }

        boolean takes(int wanted) {
            if (!hasMore() || bytes[at] != wanted) {
                return false;
            }
            at++;
            return true;
        }

        void expect(int wanted) {
            if (!takes(wanted)) {
                blame(at);
            }
        }

        void finish() {
            if (at < size) {
                blame(at);
            }
        }

        /** Goes by letters, and digits behind the first one if they may be there, up to so many: how many it were. */
        int readLetters(int most, boolean orDigits) {
            from = at;
            int length = 0;
            while (length < most && (isLetter(next()) || orDigits && length > 0 && isDigit(next()))) {
                at++;
                length++;
            }
            if (length == 0) {
                blame(at);
            }
            return length;
        }

        /** The range is looked at ahead of what comes behind, as a text may end with its NUMBER. */
        int readNumber(int low, int high) {
            from = at;
            int value = 0;
            int digits = 0;
            boolean leadingZero = false;
            while (digits < MOST_DIGITS && !leadingZero && isDigit(next())) {
                value = value * 10 + next() - '0';
                leadingZero = value == 0;
                at++;
                digits++;
            }
            if (digits == 0 || isDigit(next())) {
                blame(at);
            }
            if (value < low || value > high) {
                blame(from);
            }
            return value;
        }

        int readNextNumber(int low, int high) {
            expect(BLANK);
            return readNumber(low, high);
        }

        void readKeyword(String told) {
            readLetters(ROOM, true);
            if (!wordIs(told)) {
                blameToken();
            }
        }

        /** Which one of two words stands there, 0 or 1. */
        int readEither(String first, String second) {
            readLetters(ROOM, true);
            boolean isSecond = wordIs(second);
            if (!isSecond && !wordIs(first)) {
                blameToken();
            }
            return isSecond ? 1 : 0;
        }

        private boolean wordIs(String told) {
            if (at - from != told.length()) {
                return false;
            }
            for (int i = 0; i < told.length(); i++) {
                if (byteAt(from + i) != told.charAt(i)) {
                    return false;
                }
            }
            return true;
        }

        private static boolean isDigit(int b) {
            return b >= '0' && b <= '9';
        }

        private static boolean isLetter(int b) {
            return b >= 'a' && b <= 'z';
        }
    }

    /** The CUT TEXT and THE PLAN. Four WIDTHS are always there; those that the text doesn't tell are wanted 0 times. */
    private static final class Rolls {
        private static final int KINDS = 4;
        private static final int MOST_PIECES = 16;
        /** As many parts as 16 pieces of four WIDTHS can have: five counts of each. */
        private static final int STATES = 625;
        private static final int MANY = 99;

        private final int[] widths;
        private final int[] wanted;
        private final int[] draftWidths;
        private final int[] draftWanted;
        private final int[] strides;
        private final int[] open;
        private final int[] trial;
        private final int[] fewest;
        private final int[] plan;
        private int roll;
        private int knives;
        private int kinds;
        private int patterns;

        Rolls() {
            widths = new int[KINDS];
            wanted = new int[KINDS];
            draftWidths = new int[KINDS];
            draftWanted = new int[KINDS];
            strides = new int[KINDS];
            open = new int[KINDS];
            trial = new int[KINDS];
            fewest = new int[STATES];
            plan = new int[MOST_PIECES * KINDS];
        }

        int inPlan() {
            return patterns;
        }

        int lostInAll() {
            int lost = 0;
            for (int i = 0; i < patterns; i++) {
                lost += lostOf(i);
            }
            return lost;
        }

        int tell(int i, int k) {
            if (i < 0 || i >= patterns || k < NONE || k >= kinds) {
                return NONE;
            }
            return k == NONE ? lostOf(i) : plan[i * KINDS + k];
        }

        private int lostOf(int i) {
            int lost = roll;
            for (int k = 0; k < KINDS; k++) {
                lost -= plan[i * KINDS + k] * widths[k];
            }
            return lost;
        }

        int takeText(Tape t) {
            t.readKeyword("roll");
            int newRoll = t.readNextNumber(50, 400);
            int newKnives = t.readNextNumber(1, 6);
            t.expect(NEWLINE);
            int lines = 0;
            int free = MOST_PIECES;
            do {
                readLine(t, lines, newRoll, free);
                free -= draftWanted[lines];
                lines++;
            } while (lines < KINDS && t.hasMore());
            t.finish();
            if (!t.isRight()) {
                return NONE;
            }
            roll = newRoll;
            knives = newKnives;
            kinds = lines;
            adopt();
            countFewest();
            makePlan();
            return patterns;
        }

        private void readLine(Tape t, int line, int newRoll, int free) {
            t.readKeyword("cut");
            draftWidths[line] = t.readNextNumber(10, newRoll);
            for (int k = 0; k < line; k++) {
                if (draftWidths[k] == draftWidths[line]) {
                    t.blameToken();
                }
            }
            draftWanted[line] = t.readNextNumber(1, Math.min(9, free));
            t.expect(NEWLINE);
        }

        private void adopt() {
            for (int k = 0; k < KINDS; k++) {
                widths[k] = k < kinds ? draftWidths[k] : 0;
                wanted[k] = k < kinds ? draftWanted[k] : 0;
            }
            int stride = 1;
            for (int k = KINDS - 1; k >= 0; k--) {
                strides[k] = stride;
                stride *= wanted[k] + 1;
            }
        }

        private int wholeState() {
            int state = 0;
            for (int k = 0; k < KINDS; k++) {
                state += wanted[k] * strides[k];
            }
            return Math.min(state, STATES - 1);
        }

        /**
         * The fewest PATTERNS for each part of what is wanted. One piece more never needs fewer of them, and at most
         * one more: so it is only asked whether the number for a piece less is enough.
         */
        private void countFewest() {
            int whole = wholeState();
            for (int k = 0; k < KINDS; k++) {
                open[k] = 0;
            }
            fewest[0] = 0;
            for (int state = 1; state <= whole; state++) {
                stepOpen();
                int less = fewest[Math.max(0, state - onePiece())];
                fewest[state] = MANY;
                fewest[state] = reaches(0, knives, roll, state, less - 1) ? less : less + 1;
            }
        }

        /** Counts on as the states do: the last WIDTH goes fastest. */
        private void stepOpen() {
            for (int k = KINDS - 1; k >= 0; k--) {
                if (open[k] < wanted[k]) {
                    open[k]++;
                    return;
                }
                open[k] = 0;
            }
        }

        private int onePiece() {
            for (int k = 0; k < KINDS; k++) {
                if (open[k] > 0) {
                    return strides[k];
                }
            }
            return 0;
        }

        /**
         * Looks, the greatest first, for a PATTERN of the open pieces behind which goal PATTERNS are enough; the trial
         * row holds it then. Of the last WIDTH the most is taken: fewer pieces left never need more PATTERNS.
         */
        private boolean reaches(int kind, int free, int room, int state, int goal) {
            if (kind < 0 || kind >= KINDS || goal < 0) {
                return false;
            }
            int most = mostOf(kind, free, room);
            if (kind == KINDS - 1) {
                trial[kind] = most;
                int rest = state - most * strides[kind];
                return rest >= 0 && rest < STATES && fewest[rest] <= goal;
            }
            for (int n = most; n >= 0; n--) {
                trial[kind] = n;
                if (reaches(kind + 1, free - n, room - n * widths[kind], state - n * strides[kind], goal)) {
                    return true;
                }
            }
            return false;
        }

        private int mostOf(int kind, int free, int room) {
            int most = Math.min(open[kind], free);
            return widths[kind] > 0 ? Math.min(most, room / widths[kind]) : 0;
        }

        /** The greatest PATTERN that any of the shortest plans has comes first; the rest is a shortest plan, too. */
        private void makePlan() {
            int state = wholeState();
            for (int k = 0; k < KINDS; k++) {
                open[k] = wanted[k];
            }
            patterns = 0;
            while (state > 0 && state < STATES && patterns < MOST_PIECES) {
                reaches(0, knives, roll, state, fewest[state] - 1);
                for (int k = 0; k < KINDS; k++) {
                    plan[patterns * KINDS + k] = trial[k];
                    open[k] -= trial[k];
                    state -= trial[k] * strides[k];
                }
                patterns++;
            }
        }
    }

    /** The folded SHEET and the BOOK made of such ones. A PANEL's index is its row times COLUMNS and its column. */
    private static final class Folding {
        private static final int MOST_PANELS = 64;
        private static final int MOST_FOLDS = 6;

        private final int[] folds;
        private final int[] stacks;
        private final int[] stacksBefore;
        private final int[] leafOf;
        private final int[] turned;
        private final int[] tumbled;
        private int rows;
        private int columns;
        private int gridRows;
        private int gridColumns;
        private int height;
        private int sheets;
        private int way;
        private int caliper;

        Folding() {
            folds = new int[MOST_FOLDS];
            stacks = new int[MOST_PANELS];
            stacksBefore = new int[MOST_PANELS];
            leafOf = new int[MOST_PANELS];
            turned = new int[MOST_PANELS];
            tumbled = new int[MOST_PANELS];
            sheets = 1;
            caliper = 1;
            folds[0] = 'l';
            foldSheet(1, 2, 1);
        }

        int rows() {
            return rows;
        }

        int columns() {
            return columns;
        }

        int leaves() {
            return rows * columns;
        }

        int sheets() {
            return sheets;
        }

        int takeText(Tape t) {
            t.readKeyword("sheet");
            int newRows = readSide(t);
            int newColumns = readSide(t);
            t.expect(NEWLINE);
            t.readKeyword("fold");
            t.expect(BLANK);
            int many = readFolds(t, halvings(newRows), halvings(newColumns));
            t.expect(NEWLINE);
            t.finish();
            if (!t.isRight()) {
                return NONE;
            }
            foldSheet(newRows, newColumns, many);
            return leaves();
        }

        private int readSide(Tape t) {
            int panels = t.readNextNumber(1, 8);
            if (panels != 1 && panels != 2 && panels != 4 && panels != 8) {
                t.blameToken();
            }
            return panels;
        }

        private static int halvings(int panels) {
            if (panels >= 8) {
                return 3;
            }
            if (panels >= 4) {
                return 2;
            }
            return panels >= 2 ? 1 : 0;
        }

        private int readFolds(Tape t, int down, int across) {
            int downLeft = down;
            int acrossLeft = across;
            int many = 0;
            while (many < MOST_FOLDS && many < down + across && t.isRight()) {
                int letter = t.next();
                if (isAcross(letter) && acrossLeft > 0) {
                    acrossLeft--;
                } else if (isDown(letter) && downLeft > 0) {
                    downLeft--;
                } else {
                    t.blame(t.place());
                }
                t.takes(letter);
                folds[many] = letter;
                many++;
            }
            return many;
        }

        private static boolean isAcross(int letter) {
            return letter == 'l' || letter == 'r';
        }

        private static boolean isDown(int letter) {
            return letter == 't' || letter == 'b';
        }

        private void foldSheet(int newRows, int newColumns, int many) {
            rows = newRows;
            columns = newColumns;
            gridRows = newRows;
            gridColumns = newColumns;
            height = 1;
            for (int i = 0; i < MOST_PANELS; i++) {
                stacks[i] = i;
                turned[i] = 0;
                tumbled[i] = 0;
            }
            for (int f = 0; f < many && f < MOST_FOLDS; f++) {
                foldOver(folds[f]);
            }
            for (int k = 0; k < leaves() && k < MOST_PANELS; k++) {
                leafOf[stacks[k]] = k;
            }
        }

        /** The half that stays keeps its place; the other one comes, bottom up, onto the place that mirrors its own. */
        private void foldOver(int letter) {
            System.arraycopy(stacks, 0, stacksBefore, 0, MOST_PANELS);
            boolean across = isAcross(letter);
            boolean lowerHalfStays = letter == 'l' || letter == 't';
            int newRows = across ? gridRows : gridRows / 2;
            int newColumns = across ? gridColumns / 2 : gridColumns;
            int rowsOff = !across && lowerHalfStays ? newRows : 0;
            int columnsOff = across && lowerHalfStays ? newColumns : 0;
            for (int r = 0; r < newRows; r++) {
                for (int c = 0; c < newColumns; c++) {
                    int row = r + rowsOff;
                    int column = c + columnsOff;
                    int stays = row * gridColumns + column;
                    int comes = across
                            ? row * gridColumns + gridColumns - 1 - column
                            : (gridRows - 1 - row) * gridColumns + column;
                    layOver(comes, stays, r * newColumns + c, across);
                }
            }
            gridRows = newRows;
            gridColumns = newColumns;
            height *= 2;
        }

        private void layOver(int comes, int stays, int onto, boolean across) {
            int top = onto * 2 * height;
            for (int d = 0; d < height && top + height + d < MOST_PANELS; d++) {
                int panel = stacksBefore[comes * height + height - 1 - d];
                turned[panel] ^= 1;
                if (!across) {
                    tumbled[panel] ^= 1;
                }
                stacks[top + d] = panel;
                stacks[top + height + d] = stacksBefore[stays * height + d];
            }
        }

        int bind(int newSheets, int newWay, int newCaliper) {
            if (newSheets < 1 || newSheets > MOST_SHEETS || newWay < 0 || newWay > 1) {
                return NONE;
            }
            if (newCaliper < 1 || newCaliper > 99) {
                return NONE;
            }
            sheets = newSheets;
            way = newWay;
            caliper = newCaliper;
            return sheets * leaves() * 2;
        }

        boolean hasSide(int s, int side) {
            return s >= 0 && s < sheets && side >= 0 && side <= 1;
        }

        boolean hasPanel(int s, int side, int row, int column) {
            return hasSide(s, side) && isPanel(row, column);
        }

        private boolean isPanel(int row, int column) {
            return row >= 0 && row < rows && column >= 0 && column < columns;
        }

        boolean isUpsideDown(int row, int column) {
            return isPanel(row, column) && tumbled[row * columns + column] == 1;
        }

        /** The upper side of a LEAF, that has the first one of its two PAGES, is the BACK of a PANEL turned over. */
        int pageOn(int s, int side, int row, int column) {
            if (!hasPanel(s, side, row, column)) {
                return NONE;
            }
            int panel = row * columns + column;
            return placeOf(s, leafOf[panel]) * 2 + (side ^ turned[panel]);
        }

        /** Where LEAF k of a SHEET lies among all LEAVES of the BOOK. */
        private int placeOf(int s, int k) {
            if (way == 0) {
                return s * leaves() + k;
            }
            int half = leaves() / 2;
            if (k < half) {
                return s * half + k;
            }
            return sheets * leaves() - (s + 1) * (leaves() - half) + k - half;
        }

        int find(int page, int what) {
            int all = sheets * leaves();
            if (page < 0 || page >= all * 2 || what < 0 || what > 4) {
                return NONE;
            }
            int place = page / 2;
            if (what == 4) {
                return caliper * Math.min(place, all - 1 - place);
            }
            for (int s = 0; s < sheets; s++) {
                for (int k = 0; k < leaves() && k < MOST_PANELS; k++) {
                    if (placeOf(s, k) == place) {
                        return tellPanel(s, stacks[k], page % 2, what);
                    }
                }
            }
            return NONE;
        }

        private int tellPanel(int s, int panel, int lower, int what) {
            if (panel < 0 || panel >= MOST_PANELS || columns < 1) {
                return NONE;
            }
            switch (what) {
                case 0:
                    return s;
                case 1:
                    return lower ^ turned[panel];
                case 2:
                    return panel / columns;
                case 3:
                    return panel % columns;
                default:
                    return NONE;
            }
        }
    }

    /** The PAGES as they are drawn, and THE PLATES that come of them. */
    private static final class Plates {
        private static final int PAGES = 32;
        private static final int SIDE = 8;
        private static final int DOTS = 64;
        private static final int MOST_LINES = 40;
        private static final int[] THRESHOLDS = {0, 8, 2, 10, 12, 4, 14, 6, 3, 11, 1, 9, 15, 7, 13, 5};

        private final int[] tones;
        private final int[] draft;

        Plates() {
            tones = new int[PAGES * DOTS];
            draft = new int[DOTS];
        }

        int takeText(Tape t, int page) {
            for (int i = 0; i < DOTS; i++) {
                draft[i] = 0;
            }
            int lines = 0;
            do {
                readLine(t);
                lines++;
            } while (lines < MOST_LINES && t.hasMore());
            t.finish();
            if (!t.isRight() || page < 0 || page >= PAGES) {
                return NONE;
            }
            int sum = 0;
            for (int i = 0; i < DOTS; i++) {
                tones[page * DOTS + i] = draft[i];
                sum += draft[i];
            }
            return sum;
        }

        private void readLine(Tape t) {
            if (t.readEither("box", "line") == 1) {
                readStroke(t);
            } else {
                readBox(t);
            }
            t.expect(NEWLINE);
        }

        private void readBox(Tape t) {
            int x = t.readNextNumber(0, SIDE - 1);
            int y = t.readNextNumber(0, SIDE - 1);
            int wide = t.readNextNumber(1, SIDE);
            int high = t.readNextNumber(1, SIDE);
            int tone = t.readNextNumber(0, 16);
            if (t.isRight()) {
                paint(x, y, x + wide - 1, y + high - 1, tone);
            }
        }

        private void readStroke(Tape t) {
            int x = t.readNextNumber(0, SIDE - 1);
            int y = t.readNextNumber(0, SIDE - 1);
            int x2 = t.readNextNumber(0, SIDE - 1);
            int y2 = t.readNextNumber(0, SIDE - 1);
            if (x != x2 && y != y2) {
                t.blameToken();
            }
            int tone = t.readNextNumber(0, 16);
            if (t.isRight()) {
                paint(Math.min(x, x2), Math.min(y, y2), Math.max(x, x2), Math.max(y, y2), tone);
            }
        }

        private void paint(int x, int y, int lastX, int lastY, int tone) {
            for (int row = Math.max(0, y); row <= lastY && row < SIDE; row++) {
                for (int column = Math.max(0, x); column <= lastX && column < SIDE; column++) {
                    draft[row * SIDE + column] = tone;
                }
            }
        }

        int pointAt(Folding f, int s, int side, int x, int y) {
            if (x < 0 || y < 0 || x / SIDE >= f.columns() || y / SIDE >= f.rows() || !f.hasSide(s, side)) {
                return NONE;
            }
            int row = y / SIDE;
            int column = panelColumn(f, side, x / SIDE);
            int page = f.pageOn(s, side, row, column);
            return inked(page, f.isUpsideDown(row, column), x % SIDE, y % SIDE) ? 1 : 0;
        }

        int coverageOf(Folding f, int s, int side, int zone) {
            int column = panelColumn(f, side, zone);
            int sum = 0;
            for (int row = 0; row < f.rows(); row++) {
                sum += inkedOf(f.pageOn(s, side, row, column), f.isUpsideDown(row, column));
            }
            return sum;
        }

        private static int panelColumn(Folding f, int side, int column) {
            return side == 1 ? f.columns() - 1 - column : column;
        }

        private int inkedOf(int page, boolean upsideDown) {
            int sum = 0;
            for (int i = 0; i < DOTS && page < PAGES; i++) {
                if (inked(page, upsideDown, i % SIDE, i / SIDE)) {
                    sum++;
                }
            }
            return sum;
        }

        /** A PANEL is two screens wide and high, so a POINT's place in it is enough to find its threshold. */
        private boolean inked(int page, boolean upsideDown, int x, int y) {
            if (page < 0 || page >= PAGES || x < 0 || x >= SIDE || y < 0 || y >= SIDE) {
                return false;
            }
            int upright = y * SIDE + x;
            int dot = upsideDown ? DOTS - 1 - upright : upright;
            return tones[page * DOTS + dot] > THRESHOLDS[y % 4 * 4 + x % 4];
        }
    }

    /** The press. Behind the ZONES that a PLATE can have there is one more, on which SETTLED is tried out. */
    private static final class Press {
        private static final int ZONES = 8;
        private static final int TRIAL = 8;
        private static final int TRIAL_SHEETS = 40;
        private static final int MOST_KEY = 255;
        private static final int KEY_BITS = 8;
        private static final int MOST_AT_ONCE = 500;
        private static final int MOST_PRINTED = 4000;
        private static final int BITS = 32;

        private final int[] keys;
        private final int[] coverage;
        private final int[] share;
        private final int[] filmA;
        private final int[] filmB;
        private final int[] density;
        private final int[] paper;
        private final int[] goodBits;
        private int zones;
        private int aim;
        private int tolerance;
        private int spoiled;
        private int printed;
        private int good;

        Press() {
            keys = new int[ZONES + 1];
            coverage = new int[ZONES + 1];
            share = new int[ZONES + 1];
            filmA = new int[ZONES + 1];
            filmB = new int[ZONES + 1];
            density = new int[ZONES + 1];
            paper = new int[ZONES + 1];
            goodBits = new int[MOST_PRINTED / BITS + 1];
            aim = 500;
            tolerance = 50;
        }

        int sheetsPrinted() {
            return printed;
        }

        int sheetsGood() {
            return good;
        }

        void clear(int newZones) {
            zones = Math.min(newZones, ZONES);
            printed = 0;
            good = 0;
            for (int i = 0; i < goodBits.length; i++) {
                goodBits[i] = 0;
            }
        }

        void cover(int zone, int points, int rows) {
            if (zone >= 0 && zone < ZONES && rows > 0) {
                coverage[zone] = points;
                share[zone] = points / rows;
                cleanFilms(zone);
            }
        }

        private void cleanFilms(int zone) {
            filmA[zone] = 0;
            filmB[zone] = 0;
            density[zone] = 0;
            paper[zone] = 0;
        }

        int turnKey(int zone, int v) {
            if (zone < 0 || zone >= ZONES || v < 0 || v > MOST_KEY) {
                return NONE;
            }
            int before = keys[zone];
            keys[zone] = v;
            return before;
        }

        int aimAt(int newAim, int newTolerance, int newSpoiled) {
            if (newAim < 0 || newAim > 4000 || newTolerance < 0 || newTolerance > 400) {
                return NONE;
            }
            if (newSpoiled < 0 || newSpoiled > 99) {
                return NONE;
            }
            aim = newAim;
            tolerance = newTolerance;
            spoiled = newSpoiled;
            return 1;
        }

        /** More ink never makes a lighter sheet, so the range of keys can be halved. */
        int settledKey(int zone) {
            if (zone < 0 || zone >= zones) {
                return NONE;
            }
            if (coverage[zone] == 0) {
                return 0;
            }
            share[TRIAL] = share[zone];
            int low = 0;
            int high = MOST_KEY;
            for (int halving = 0; halving < KEY_BITS && low < high; halving++) {
                int middle = (low + high) / 2;
                if (trialDensity(middle) >= aim) {
                    high = middle;
                } else {
                    low = middle + 1;
                }
            }
            return low;
        }

        private int trialDensity(int trialKey) {
            keys[TRIAL] = trialKey;
            cleanFilms(TRIAL);
            for (int i = 0; i < TRIAL_SHEETS; i++) {
                ink(TRIAL);
            }
            return density[TRIAL];
        }

        private void ink(int z) {
            filmA[z] += 16 * keys[z];
            int moved = Math.floorDiv(filmA[z] - filmB[z], 3);
            filmA[z] -= moved;
            filmB[z] += moved;
            density[z] = Math.floorDiv(filmB[z] * share[z], 512);
            filmB[z] -= density[z];
            paper[z] += density[z];
        }

        int printMany(int n) {
            if (n < 0 || n > MOST_AT_ONCE) {
                return NONE;
            }
            if (zones == 0) {
                return STATE;
            }
            if (printed + n > MOST_PRINTED) {
                return FULL;
            }
            int before = good;
            for (int i = 0; i < n; i++) {
                printSheet();
            }
            return good - before;
        }

        int printTill(int n) {
            if (n < 1 || n > 200) {
                return NONE;
            }
            if (zones == 0) {
                return STATE;
            }
            int before = good;
            int sheets = 0;
            while (sheets < MOST_AT_ONCE && printed < MOST_PRINTED && good - before < n) {
                printSheet();
                sheets++;
            }
            return sheets;
        }

        private void printSheet() {
            boolean isGood = true;
            for (int z = 0; z < zones; z++) {
                ink(z);
                if (coverage[z] != 0 && Math.abs(density[z] - aim) > tolerance) {
                    isGood = false;
                }
            }
            printed++;
            if (spoiled > 0 && printed % spoiled == 0) {
                isGood = false;
            }
            if (isGood) {
                good++;
                noteGood(printed);
            }
        }

        private void noteGood(int sheet) {
            if (sheet >= 0 && sheet <= MOST_PRINTED) {
                goodBits[sheet / BITS] |= 1 << (sheet % BITS);
            }
        }

        /** A GOOD sheet's number is how many GOOD ones there are up to it, so a bit for each is enough to keep. */
        int numberOf(int k) {
            if (k < 1 || k > printed || k > MOST_PRINTED) {
                return NONE;
            }
            int word = k / BITS;
            int upToIt = -1 >>> (BITS - 1 - k % BITS);
            if ((goodBits[word] >>> (k % BITS) & 1) == 0) {
                return 0;
            }
            int number = Integer.bitCount(goodBits[word] & upToIt);
            for (int i = 0; i < word; i++) {
                number += Integer.bitCount(goodBits[i]);
            }
            return number;
        }

        int tellZone(int zone, int what) {
            if (zone < 0 || zone >= zones) {
                return NONE;
            }
            switch (what) {
                case 0:
                    return coverage[zone];
                case 1:
                    return filmA[zone];
                case 2:
                    return filmB[zone];
                case 3:
                    return density[zone];
                case 4:
                    return paper[zone];
                case 5:
                    return keys[zone];
                default:
                    return NONE;
            }
        }
    }

    /** A line of the GALLEY: letters as their places, 1 to 26, and spaces as their widths below 0. */
    private static final class TypeLine {
        private static final int SPACE = 3;
        private static final int MOST_MARKS = 12 * 12 + 11;

        private final int[] marks;
        private int size;
        private int width;
        private int words;
        private int letters;
        private int firstSpace;
        private int lastSpace;

        TypeLine() {
            marks = new int[MOST_MARKS];
        }

        void start() {
            size = 0;
            width = 0;
            words = 0;
            letters = 0;
            firstSpace = 0;
            lastSpace = 0;
        }

        void addWord(int newWidth) {
            words++;
            width += newWidth;
        }

        void addLetter(int place) {
            if (size < MOST_MARKS) {
                marks[size] = place;
                size++;
                letters++;
            }
        }

        void addSpace(int wide) {
            if (size < MOST_MARKS) {
                marks[size] = -wide;
                size++;
                width += wide;
                firstSpace = firstSpace == 0 ? wide : firstSpace;
                lastSpace = wide;
            }
        }

        int length() {
            return size;
        }

        /** The letter at a place from 0 on, 0 for a space. */
        int letterAt(int i) {
            return i >= 0 && i < size ? Math.max(0, marks[i]) : 0;
        }

        int backwards(int i) {
            if (i < 0 || i >= size) {
                return NONE;
            }
            int mark = marks[size - 1 - i];
            return mark > 0 ? mark : Math.min(40, 30 - mark - SPACE);
        }

        int tell(int what) {
            switch (what) {
                case 0:
                    return width;
                case 1:
                    return words;
                case 2:
                    return letters;
                case 3:
                    return firstSpace;
                case 4:
                    return lastSpace;
                default:
                    return NONE;
            }
        }
    }

    /** The CASE and the GALLEY. */
    private static final class TypeRoom {
        private static final int LETTERS = 26;
        private static final int MOST_LINES = 16;
        private static final int MOST_WORDS = 12;
        private static final int MOST_IN_WORD = 12;
        private static final int[] FIRST_WIDTHS = {
            4, 4, 4, 4, 4, 4, 4, 4, 2, 2, 4, 2, 5, 4, 4, 4, 4, 4, 4, 4, 4, 4, 5, 4, 4, 4
        };

        private final int[] stock;
        private final int[] widths;
        private final int[] needed;
        private final int[] wordFrom;
        private final int[] wordLength;
        private final int[] wordWidth;
        private final int[] lineStart;
        private final TypeLine[] galley;
        private int words;
        private int lines;

        TypeRoom() {
            stock = new int[LETTERS];
            widths = new int[LETTERS];
            needed = new int[LETTERS];
            for (int i = 0; i < LETTERS; i++) {
                stock[i] = 20;
                widths[i] = FIRST_WIDTHS[i];
            }
            wordFrom = new int[MOST_WORDS];
            wordLength = new int[MOST_WORDS];
            wordWidth = new int[MOST_WORDS];
            lineStart = new int[MOST_WORDS + 1];
            galley = new TypeLine[MOST_LINES];
            for (int i = 0; i < MOST_LINES; i++) {
                galley[i] = new TypeLine();
            }
        }

        int linesStanding() {
            return lines;
        }

        int stockUp(int letter, int many, int width) {
            if (letter < 1 || letter > LETTERS || many < 0 || many > 99 || width < 1 || width > 20) {
                return NONE;
            }
            stock[letter - 1] = many;
            widths[letter - 1] = width;
            return 1;
        }

        int stockOf(int letter) {
            return letter < 1 || letter > LETTERS ? NONE : stock[letter - 1];
        }

        int takeText(Tape t, int measure) {
            readWords(t);
            if (!t.isRight()) {
                return NONE;
            }
            measureWords(t);
            if (!enoughSorts() || !wordsFit(measure)) {
                return 0;
            }
            int more = breakLines(measure);
            if (lines + more > MOST_LINES) {
                return 0;
            }
            for (int i = 0; i < more; i++) {
                layLine(t, i, i == more - 1, measure);
            }
            for (int i = 0; i < LETTERS; i++) {
                stock[i] -= needed[i];
            }
            return more;
        }

        private void readWords(Tape t) {
            words = 0;
            do {
                wordFrom[words] = t.place();
                wordLength[words] = t.readLetters(MOST_IN_WORD, false);
                words++;
            } while (words < MOST_WORDS && t.takes(BLANK));
            t.expect(NEWLINE);
            t.finish();
        }

        private void measureWords(Tape t) {
            for (int i = 0; i < LETTERS; i++) {
                needed[i] = 0;
            }
            for (int w = 0; w < words && w < MOST_WORDS; w++) {
                wordWidth[w] = 0;
                for (int i = 0; i < wordLength[w]; i++) {
                    int letter = t.byteAt(wordFrom[w] + i) - 'a';
                    if (letter >= 0 && letter < LETTERS) {
                        needed[letter]++;
                        wordWidth[w] += widths[letter];
                    }
                }
            }
        }

        private boolean enoughSorts() {
            for (int i = 0; i < LETTERS; i++) {
                if (needed[i] > stock[i]) {
                    return false;
                }
            }
            return true;
        }

        private boolean wordsFit(int measure) {
            for (int w = 0; w < words && w < MOST_WORDS; w++) {
                if (wordWidth[w] > measure) {
                    return false;
                }
            }
            return true;
        }

        /** Notes each line's first word, and one behind the last line's words; answers how many lines there are. */
        private int breakLines(int measure) {
            int many = 0;
            int width = 0;
            for (int w = 0; w < words && w < MOST_WORDS; w++) {
                int wider = width + TypeLine.SPACE + wordWidth[w];
                if (w == 0 || wider > measure) {
                    lineStart[many] = w;
                    many++;
                    wider = wordWidth[w];
                }
                width = wider;
            }
            lineStart[many] = words;
            return many;
        }

        private void layLine(Tape t, int i, boolean isLast, int measure) {
            if (i < 0 || i >= MOST_WORDS || lines >= MOST_LINES) {
                return;
            }
            int first = lineStart[i];
            int behind = Math.min(lineStart[i + 1], MOST_WORDS);
            int spaces = behind - first - 1;
            int surplus = isLast ? 0 : measure - spaces * TypeLine.SPACE;
            for (int w = first; w < behind && !isLast; w++) {
                surplus -= wordWidth[w];
            }
            int each = spaces > 0 ? surplus / spaces : 0;
            int ones = spaces > 0 ? surplus % spaces : 0;
            TypeLine fresh = galley[lines];
            fresh.start();
            for (int w = first; w < behind; w++) {
                if (w > first) {
                    fresh.addSpace(TypeLine.SPACE + each + (w - first <= ones ? 1 : 0));
                }
                layWord(t, w, fresh);
            }
            lines++;
        }

        private void layWord(Tape t, int w, TypeLine onto) {
            onto.addWord(wordWidth[w]);
            for (int i = 0; i < wordLength[w]; i++) {
                onto.addLetter(t.byteAt(wordFrom[w] + i) - 'a' + 1);
            }
        }

        private boolean stands(int line) {
            return line >= 0 && line < lines && line < MOST_LINES;
        }

        /** The line's object goes behind the others, to be used again. */
        int putBack(int line) {
            if (!stands(line)) {
                return NONE;
            }
            TypeLine gone = galley[line];
            for (int i = 0; i < gone.length(); i++) {
                int letter = gone.letterAt(i);
                if (letter >= 1 && letter <= LETTERS) {
                    stock[letter - 1]++;
                }
            }
            for (int i = line; i < lines - 1; i++) {
                galley[i] = galley[i + 1];
            }
            lines--;
            galley[lines] = gone;
            return lines;
        }

        int tellLine(int line, int what) {
            return stands(line) ? galley[line].tell(what) : NONE;
        }

        int tellStrip(int line, int i) {
            return stands(line) ? galley[line].backwards(i) : NONE;
        }
    }

    /** A PILE cut apart; without PIECES it is none. */
    private static final class Pile {
        private static final int MOST_CUTS = 30;

        private final int[] lefts;
        private final int[] tops;
        private final int[] widths;
        private final int[] heights;
        private int pieces;

        Pile() {
            lefts = new int[MOST_CUTS + 1];
            tops = new int[MOST_CUTS + 1];
            widths = new int[MOST_CUTS + 1];
            heights = new int[MOST_CUTS + 1];
        }

        int howMany() {
            return pieces;
        }

        int takeText(Tape t, int w, int h) {
            lefts[0] = 0;
            tops[0] = 0;
            widths[0] = w;
            heights[0] = h;
            pieces = 1;
            for (int lines = 0; lines < MOST_CUTS && t.hasMore(); lines++) {
                readCut(t);
            }
            t.finish();
            return pieces;
        }

        private void readCut(Tape t) {
            boolean down = t.readEither("x", "y") == 1;
            int k = t.readNextNumber(0, pieces - 1);
            if (!has(k) || pieces > MOST_CUTS) {
                return;
            }
            int far = t.readNextNumber(1, (down ? heights[k] : widths[k]) - 1);
            t.expect(NEWLINE);
            if (t.isRight()) {
                cutOff(k, down ? 0 : far, down ? far : 0);
            }
        }

        private void cutOff(int k, int right, int down) {
            lefts[pieces] = lefts[k] + right;
            tops[pieces] = tops[k] + down;
            widths[pieces] = widths[k] - right;
            heights[pieces] = heights[k] - down;
            if (right > 0) {
                widths[k] = right;
            } else {
                heights[k] = down;
            }
            pieces++;
        }

        private boolean has(int k) {
            return k >= 0 && k < pieces && k <= MOST_CUTS;
        }

        int tell(int k, int what) {
            if (!has(k)) {
                return NONE;
            }
            switch (what) {
                case 0:
                    return lefts[k];
                case 1:
                    return tops[k];
                case 2:
                    return widths[k];
                case 3:
                    return heights[k];
                default:
                    return NONE;
            }
        }

        int pieceAt(int x, int y) {
            for (int k = 0; k < pieces && k <= MOST_CUTS; k++) {
                boolean across = x >= lefts[k] && x < lefts[k] + widths[k];
                if (across && y >= tops[k] && y < tops[k] + heights[k]) {
                    return k;
                }
            }
            return NONE;
        }
    }

    /**
     * THE LIST, in its order. A NAME is kept in a long, its first byte highest and 0 behind its last one: so the
     * order of the longs is that of the NAMES.
     */
    private static final class MailList {
        private static final int MOST = 120;
        private static final int MOST_LINES = 40;
        private static final int MOST_BYTES = 8;

        private final int[] codes;
        private final long[] names;
        private final int[] came;
        private final int[] draftCodes;
        private final long[] draftNames;
        private int drafts;
        private int size;
        private int comers;

        MailList() {
            codes = new int[MOST];
            names = new long[MOST];
            came = new int[MOST];
            draftCodes = new int[MOST_LINES];
            draftNames = new long[MOST_LINES];
        }

        int howMany() {
            return size;
        }

        boolean has(int i) {
            return i >= 0 && i < size && i < MOST;
        }

        int codeOf(int i) {
            return has(i) ? codes[i] : NONE;
        }

        int takeText(Tape t) {
            drafts = 0;
            do {
                draftCodes[drafts] = readCode(t);
                t.expect(BLANK);
                draftNames[drafts] = readName(t);
                t.expect(NEWLINE);
                drafts++;
            } while (drafts < MOST_LINES && t.hasMore());
            t.finish();
            if (!t.isRight()) {
                return NONE;
            }
            if (size + newcomers() > MOST) {
                return FULL;
            }
            for (int i = 0; i < drafts; i++) {
                insert(draftCodes[i], draftNames[i]);
            }
            return size;
        }

        private static int readCode(Tape t) {
            int code = 0;
            for (int i = 0; i < 5; i++) {
                int digit = t.next();
                if (digit < '0' || digit > '9') {
                    t.blame(t.place());
                }
                t.takes(digit);
                code = code * 10 + digit - '0';
            }
            return code;
        }

        private static long readName(Tape t) {
            int length = t.readLetters(MOST_BYTES, true);
            int from = t.place() - length;
            long name = 0;
            for (int i = 0; i < MOST_BYTES; i++) {
                name = name << 8 | (i < length ? t.byteAt(from + i) : 0);
            }
            return name;
        }

        /** How many of the text's LETTERS are neither in THE LIST nor ahead of it in the text. */
        private int newcomers() {
            int many = 0;
            for (int i = 0; i < drafts && i < MOST_LINES; i++) {
                if (!isThere(draftCodes[i], draftNames[i]) && !standsAhead(i)) {
                    many++;
                }
            }
            return many;
        }

        private boolean standsAhead(int draft) {
            for (int i = 0; i < draft; i++) {
                if (draftCodes[i] == draftCodes[draft] && draftNames[i] == draftNames[draft]) {
                    return true;
                }
            }
            return false;
        }

        private boolean isThere(int code, long name) {
            int i = placeFor(code, name);
            return has(i) && codes[i] == code && names[i] == name;
        }

        /** The first place whose LETTER is not ahead of this one. */
        private int placeFor(int code, long name) {
            int place = 0;
            while (place < size && place < MOST && isAhead(place, code, name)) {
                place++;
            }
            return place;
        }

        private boolean isAhead(int i, int code, long name) {
            return codes[i] < code || codes[i] == code && names[i] < name;
        }

        private void insert(int code, long name) {
            if (size >= MOST || isThere(code, name)) {
                return;
            }
            int place = placeFor(code, name);
            for (int i = size; i > place; i--) {
                codes[i] = codes[i - 1];
                names[i] = names[i - 1];
                came[i] = came[i - 1];
            }
            codes[place] = code;
            names[place] = name;
            came[place] = comers;
            comers++;
            size++;
        }

        int remove(int i) {
            if (!has(i)) {
                return NONE;
            }
            size--;
            for (int k = i; k < size; k++) {
                codes[k] = codes[k + 1];
                names[k] = names[k + 1];
                came[k] = came[k + 1];
            }
            return size;
        }

        int tell(int i, int what) {
            if (!has(i)) {
                return NONE;
            }
            switch (what) {
                case 0:
                    return codes[i];
                case 1:
                    return lengthOf(i);
                case 3:
                    return cameAheadOf(i);
                default:
                    return what < 10 || what - 10 >= lengthOf(i) ? NONE : byteOf(i, what - 10);
            }
        }

        private int byteOf(int i, int place) {
            return (int) (names[i] >>> 8 * (MOST_BYTES - 1 - place)) & 255;
        }

        private int lengthOf(int i) {
            int length = 0;
            while (length < MOST_BYTES && byteOf(i, length) != 0) {
                length++;
            }
            return length;
        }

        private int cameAheadOf(int i) {
            int many = 0;
            for (int k = 0; k < size; k++) {
                if (came[k] < came[i]) {
                    many++;
                }
            }
            return many;
        }
    }

    /** The BUNDLES of THE LIST, made anew when they are asked for and something has changed. */
    private static final class Bundler {
        private static final int MIXED = 2;

        private final int[] bundleOf;
        private final int[] rest;
        private final int[] kinds;
        private final int[] sizes;
        private final int[] firsts;
        private int least;
        private int most;
        private int bundles;
        private boolean stale;

        Bundler() {
            bundleOf = new int[MailList.MOST];
            rest = new int[MailList.MOST];
            kinds = new int[MailList.MOST];
            sizes = new int[MailList.MOST];
            firsts = new int[MailList.MOST];
            least = 4;
            most = 10;
        }

        void limit(int newLeast, int newMost) {
            least = newLeast;
            most = newMost;
            stale = true;
        }

        void outdate() {
            stale = true;
        }

        int howMany(MailList mail) {
            refresh(mail);
            return bundles;
        }

        int bundleOf(MailList mail, int i) {
            refresh(mail);
            return mail.has(i) ? bundleOf[i] : NONE;
        }

        int tell(MailList mail, int k, int what) {
            refresh(mail);
            if (k < 0 || k >= bundles || k >= MailList.MOST) {
                return NONE;
            }
            switch (what) {
                case 0:
                    return kinds[k];
                case 1:
                    return sizes[k];
                case 2:
                    return firsts[k];
                default:
                    return NONE;
            }
        }

        private void refresh(MailList mail) {
            if (!stale) {
                return;
            }
            stale = false;
            bundles = 0;
            for (int i = 0; i < MailList.MOST; i++) {
                bundleOf[i] = NONE;
            }
            for (int kind = 0; kind <= MIXED; kind++) {
                bundleKind(mail, kind);
            }
        }

        private void bundleKind(MailList mail, int kind) {
            int many = 0;
            for (int i = 0; i < mail.howMany() && i < MailList.MOST; i++) {
                if (bundleOf[i] == NONE) {
                    rest[many] = i;
                    many++;
                }
            }
            int start = 0;
            for (int i = 1; i <= many; i++) {
                if (i == many || groupOf(mail, rest[i], kind) != groupOf(mail, rest[start], kind)) {
                    bundleGroup(start, i, kind);
                    start = i;
                }
            }
        }

        private static int groupOf(MailList mail, int i, int kind) {
            int code = mail.codeOf(i);
            if (kind == 0) {
                return code;
            }
            return kind == MIXED ? 0 : code / 100;
        }

        private void bundleGroup(int from, int behind, int kind) {
            int few = kind == MIXED ? 1 : least;
            for (int at = from; at < behind && most > 0; at += most) {
                int many = Math.min(most, behind - at);
                if (many >= few) {
                    makeBundle(at, many, kind);
                }
            }
        }

        private void makeBundle(int from, int size, int kind) {
            if (bundles >= MailList.MOST) {
                return;
            }
            kinds[bundles] = kind;
            sizes[bundles] = size;
            firsts[bundles] = rest[from];
            for (int i = from; i < from + size && i < MailList.MOST; i++) {
                bundleOf[rest[i]] = bundles;
            }
            bundles++;
        }
    }

    /** The JOBS and THE BEST ORDER, looked for anew when it is asked for and something has changed. */
    private static final class Workshop {
        private static final int MOST = 6;
        private static final int TOLD = 5;
        /** More than the sum of all LATE, or the last end, of any ORDER. */
        private static final int BEYOND = 1000000;

        private final int[] colours;
        private final int[] prints;
        private final int[] binds;
        private final int[] dues;
        private final int[] best;
        private final int[] trial;
        private final boolean[] used;
        private final int[] schedule;
        private int size;
        private int change;
        private int dry;
        private int bestLate;
        private int bestEnd;
        private int changes;
        private boolean stale;

        Workshop() {
            colours = new int[MOST];
            prints = new int[MOST];
            binds = new int[MOST];
            dues = new int[MOST];
            best = new int[MOST];
            trial = new int[MOST];
            used = new boolean[MOST];
            schedule = new int[MOST * TOLD];
            change = 5;
        }

        int howMany() {
            return size;
        }

        int add(int colour, int printTime, int bindTime, int due) {
            if (colour < 0 || colour > 3 || due < 0 || due > 999) {
                return NONE;
            }
            if (printTime < 1 || printTime > 99 || bindTime < 1 || bindTime > 99) {
                return NONE;
            }
            if (size >= MOST) {
                return FULL;
            }
            colours[size] = colour;
            prints[size] = printTime;
            binds[size] = bindTime;
            dues[size] = due;
            size++;
            stale = true;
            return size - 1;
        }

        int allow(int newChange, int newDry) {
            if (newChange < 0 || newChange > 50 || newDry < 0 || newDry > 50) {
                return NONE;
            }
            change = newChange;
            dry = newDry;
            stale = true;
            return 1;
        }

        private boolean has(int i) {
            return i >= 0 && i < size && i < MOST;
        }

        int remove(int i) {
            if (!has(i)) {
                return NONE;
            }
            size--;
            for (int k = i; k < size; k++) {
                colours[k] = colours[k + 1];
                prints[k] = prints[k + 1];
                binds[k] = binds[k + 1];
                dues[k] = dues[k + 1];
            }
            stale = true;
            return size;
        }

        int jobAt(int k) {
            refresh();
            return has(k) ? best[k] : NONE;
        }

        int tell(int i, int what) {
            refresh();
            return has(i) && what >= 0 && what < TOLD ? schedule[i * TOLD + what] : NONE;
        }

        int lateInAll() {
            refresh();
            return bestLate;
        }

        int lastEnd() {
            refresh();
            return bestEnd;
        }

        int changesOfColour() {
            refresh();
            return changes;
        }

        private void refresh() {
            if (!stale) {
                return;
            }
            stale = false;
            bestLate = BEYOND;
            bestEnd = BEYOND;
            for (int i = 0; i < MOST; i++) {
                used[i] = false;
            }
            search(0, 0, 0, 0);
            writeSchedule();
        }

        /**
         * Orders come the first by the jobs' numbers first, so a later one must be better to take its place. What is
         * late, and when binding ends, never falls as jobs are added: a beginning as bad as the best needs no end.
         */
        private void search(int depth, int printEnd, int bindEnd, int late) {
            if (late > bestLate || late == bestLate && bindEnd >= bestEnd) {
                return;
            }
            if (depth >= size || depth >= MOST) {
                keepTrial(bindEnd, late);
                return;
            }
            for (int i = 0; i < size && i < MOST; i++) {
                if (!used[i]) {
                    used[i] = true;
                    trial[depth] = i;
                    int begin = printEnd + changeAhead(trial, depth);
                    int bound = Math.max(begin + prints[i] + dry, bindEnd) + binds[i];
                    search(depth + 1, begin + prints[i], bound, late + Math.max(0, bound - dues[i]));
                    used[i] = false;
                }
            }
        }

        private void keepTrial(int bindEnd, int late) {
            bestLate = late;
            bestEnd = bindEnd;
            for (int k = 0; k < MOST; k++) {
                best[k] = trial[k];
            }
        }

        private int changeAhead(int[] row, int k) {
            return isChange(row, k) ? change : 0;
        }

        private boolean isChange(int[] row, int k) {
            return k > 0 && k < row.length && has(row[k]) && has(row[k - 1])
                    && colours[row[k]] != colours[row[k - 1]];
        }

        private void writeSchedule() {
            int printEnd = 0;
            int bindEnd = 0;
            changes = 0;
            for (int k = 0; k < size && k < MOST; k++) {
                int i = best[k];
                if (!has(i)) {
                    return;
                }
                int begin = printEnd + changeAhead(best, k);
                changes += isChange(best, k) ? 1 : 0;
                printEnd = begin + prints[i];
                int bindBegin = Math.max(printEnd + dry, bindEnd);
                bindEnd = bindBegin + binds[i];
                schedule[i * TOLD] = begin;
                schedule[i * TOLD + 1] = printEnd;
                schedule[i * TOLD + 2] = bindBegin;
                schedule[i * TOLD + 3] = bindEnd;
                schedule[i * TOLD + 4] = Math.max(0, bindEnd - dues[i]);
            }
        }
    }
}
