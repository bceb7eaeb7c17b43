/** The yards of a freight railway and a small typed language for them. */
public final class FreightYards {

    public static final int NONE = -1;

    private final Tape tape;
    private final Yard yard;
    private final Line line;
    private final Reader reader;
    private final Machine machine;
    private Code text;
    private Code spare;

    public FreightYards() {
        tape = new Tape();
        yard = new Yard();
        line = new Line();
        text = new Code();
        spare = new Code();
        reader = new Reader(tape, spare);
        machine = new Machine(yard, line, text);
    }

    public int feed(int a, int b, int c, int d, int e) {
        if (!tape.hasRoom()) {
            return NONE;
        }
        tape.add(a);
        tape.add(b);
        tape.add(c);
        tape.add(d);
        tape.add(e);
        return tape.length;
    }

    public int load(int n) {
        if (n < 0 || n > tape.length) {
            return NONE;
        }
        tape.cut(n);
        tape.length = 0;
        reader.read(spare);
        if (reader.fault != 0) {
            return 0;
        }
        Code read = spare;
        spare = text;
        text = read;
        return text.ownProcs();
    }

    public int fault(int what) {
        if (what == 0) {
            return reader.fault;
        }
        return what == 1 ? reader.faultPlace : NONE;
    }

    public int run(int p, int x, int y, int fuel) {
        if (p < 0 || p >= text.ownProcs() || fuel < 0 || fuel > Machine.MOST_FUEL) {
            return NONE;
        }
        int proc = Code.FIVE + p;
        return text.takesInts(proc) ? machine.start(text, proc, x, y, fuel) : NONE;
    }

    public int told(int what) {
        return machine.tellRun(what);
    }

    public int said(int i) {
        return i < 0 || i >= machine.saidCount ? 0 : machine.saidNumbers[i];
    }

    public boolean state(int n, int what) {
        return line.setStated(n, what);
    }

    public int tick(int n) {
        return n < 0 || n > Line.MOST_TICKS ? NONE : line.passTime(n);
    }

    public int vehicle(int v, int what) {
        Vehicle vehicle = v < 0 || v >= yard.vehicleCount ? null : yard.vehicles[v];
        return vehicle == null ? NONE : vehicle.tell(what);
    }

    public int track(int n, int what) {
        return line.tellTrack(n, what);
    }

    public int place(int n, int i) {
        Row row = line.rowOn(n);
        Vehicle vehicle = row == null ? null : row.vehicleAt(i);
        return vehicle == null ? NONE : vehicle.number;
    }

    public int train(int t, int what) {
        return line.tellTrain(t, what);
    }

    public int count(int what) {
        switch (what) {
            case 0: return text.ownProcs();
            case 1: return yard.vehicleCount;
            case 2: return yard.rowCount;
            case 3: return yard.placeCount;
            case 4: return line.trainCount;
            case 5: return line.clock;
            case 6: return machine.faults;
            case 7: return machine.saidCount;
            case 8: return tape.length;
            default: return NONE;
        }
    }

    /** The types of the language, and which is below which. */
    private static final class Kinds {
        static final int VEHICLE = 0;
        static final int ENGINE = 1;
        static final int WAGON = 2;
        static final int STEAM = 3;
        static final int DIESEL = 4;
        static final int BOX = 5;
        static final int TANK = 6;
        static final int FLAT = 7;
        static final int VAN = 8;
        static final int SHUNTER = 9;
        static final int REEFER = 10;
        static final int MILKER = 11;
        static final int CRANE = 12;
        static final int HOLDS = 13;
        static final int COOLS = 14;
        static final int BRAKES = 15;
        static final int LIFTS = 16;
        static final int BURNS = 17;
        /** A row of type t is ROW + t. */
        static final int ROW = 18;
        static final int INT = 36;
        /** The type of none: it fits wherever a reference does. */
        static final int NOTHING = 37;
        /** What the call of a proc without a type has. */
        static final int NO_VALUE = 38;

        static final String WRITTEN = "VEHICLE ENGINE WAGON STEAM DIESEL BOX TANK FLAT VAN SHUNTER REEFER MILKER CRANE HOLDS COOLS BRAKES LIFTS BURNS INT ";

        private static final int VEHICLES = 1 << VEHICLE;
        private static final int ENGINES = VEHICLES | 1 << ENGINE | 1 << BRAKES;
        private static final int WAGONS = VEHICLES | 1 << WAGON;
        private static final int STEAMS = ENGINES | 1 << STEAM | 1 << BURNS;
        private static final int DIESELS = ENGINES | 1 << DIESEL | 1 << BURNS;
        private static final int BOXES = WAGONS | 1 << BOX | 1 << HOLDS;
        private static final int TANKS = WAGONS | 1 << TANK | 1 << HOLDS;
        private static final int FLATS = WAGONS | 1 << FLAT | 1 << HOLDS;
        private static final int VANS = WAGONS | 1 << VAN | 1 << BRAKES;
        private static final int SHUNTERS = DIESELS | 1 << SHUNTER | 1 << LIFTS;
        private static final int REEFERS = BOXES | 1 << REEFER | 1 << COOLS | 1 << BURNS;
        private static final int MILKERS = TANKS | 1 << MILKER | 1 << COOLS;
        private static final int CRANES = FLATS | 1 << CRANE | 1 << LIFTS;

        /** By kind or ability: a bit for each that it is below. */
        private static final int[] ABOVE = {
            VEHICLES, ENGINES, WAGONS, STEAMS, DIESELS, BOXES, TANKS, FLATS, VANS,
            SHUNTERS, REEFERS, MILKERS, CRANES,
            1 << HOLDS, 1 << COOLS, 1 << BRAKES, 1 << LIFTS, 1 << BURNS
        };

        static boolean isKind(int type) {
            return type >= VEHICLE && type <= CRANE;
        }

        static boolean isKindOrAbility(int type) {
            return type >= VEHICLE && type < ROW;
        }

        static boolean isRow(int type) {
            return type >= ROW && type < INT;
        }

        static boolean isReference(int type) {
            return type >= VEHICLE && type < INT || type == NOTHING;
        }

        static boolean isBelow(int type, int other) {
            if (type < 0 || type >= INT || other < 0 || other >= INT) {
                return false;
            }
            if ((type >= ROW) != (other >= ROW)) {
                return false;
            }
            return (ABOVE[type % ROW] >> other % ROW & 1) == 1;
        }

        /** Whether a value of a type may go where another is wanted. */
        static boolean fits(int type, int wanted) {
            if (type == NOTHING) {
                return isReference(wanted);
            }
            return type == INT ? wanted == INT : isBelow(type, wanted);
        }

        /** Whether as and is may ask a value of a type for another type. */
        static boolean mayBeAsked(int type, int asked) {
            if (!isReference(type) || !isReference(asked)) {
                return false;
            }
            if (type == NOTHING) {
                return true;
            }
            if (isRow(type) != isRow(asked)) {
                return false;
            }
            boolean areKinds = isKind(type % ROW) && isKind(asked % ROW);
            return !areKinds || isBelow(type, asked) || isBelow(asked, type);
        }
    }

    /** The bytes that were fed, and the tokens that they are cut into. */
    private static final class Tape {
        // A sign of one character is its own token kind; these lie apart from such characters.
        static final int EQUAL = 1;
        static final int UNEQUAL = 2;
        static final int NAME = 3;
        static final int NUMBER = 4;
        static final int TYPE = 5;
        static final int END = 6;
        static final int BAD = 7;

        static final int TO = 200;
        static final int VAR = 201;
        static final int IF = 202;
        static final int ELSE = 203;
        static final int WHILE = 204;
        static final int TRY = 205;
        static final int CATCH = 206;
        static final int RETURN = 207;
        static final int SAY = 208;
        static final int FAIL = 209;
        static final int NEW = 210;
        static final int NOTHING = 211;
        static final int IS = 212;
        static final int AS = 213;
        static final int SIZE = 214;

        private static final String WORDS = "to var if else while try catch return say fail new none is as size ";
        private static final String SIGNS = "(){}[],;.:=<+-*";
        private static final int MOST_LETTERS = 8;
        private static final int MOST_DIGITS = 9;

        private static final int MOST_BYTES = 3000;
        private static final int FED_AT_ONCE = 20;
        /** One more than a text may have shows that it has too many, and the next what that one is. */
        private static final int MOST_KEPT = 802;

        private final byte[] bytes = new byte[MOST_BYTES];
        int length;
        private int end;
        private int at;
        final int[] kinds = new int[MOST_KEPT];
        final int[] places = new int[MOST_KEPT];
        /** A name's signs, a number, or which type it is. */
        final long[] values = new long[MOST_KEPT];
        int tokens;

        boolean hasRoom() {
            return length + FED_AT_ONCE <= MOST_BYTES;
        }

        void add(int word) {
            for (int shift = 24; shift >= 0; shift -= 8) {
                if (length < MOST_BYTES) {
                    bytes[length] = (byte) (word >> shift);
                    length++;
                }
            }
        }

        /** The tokens of the first n bytes, up to the end or to what is none. */
        void cut(int n) {
            end = Math.min(n, MOST_BYTES);
            at = 0;
            tokens = 0;
            int kind = NAME;
            for (int i = 0; i < MOST_KEPT && kind != END && kind != BAD; i++) {
                kind = cutToken(i);
                kinds[i] = kind;
                tokens++;
            }
        }

        /** The index of a name in a text of names that each have a blank behind them. */
        static int indexIn(String names, long name) {
            long code = 0;
            int index = 0;
            for (int i = 0; i < names.length(); i++) {
                char sign = names.charAt(i);
                if (sign != ' ') {
                    code = withSign(code, sign);
                } else if (code == name) {
                    return index;
                } else {
                    index++;
                    code = 0;
                }
            }
            return NONE;
        }

        // Eight signs of seven bits each fit into a long, so names are compared as numbers.
        private static long withSign(long code, int sign) {
            return code << 7 | sign;
        }

        private static boolean isSmall(int sign) {
            return sign >= 'a' && sign <= 'z';
        }

        private static boolean isCapital(int sign) {
            return sign >= 'A' && sign <= 'Z';
        }

        private static boolean isDigit(int sign) {
            return sign >= '0' && sign <= '9';
        }

        /** The byte that is looked at; 0, which no token has, at the end. */
        private int sign() {
            return at >= 0 && at < end ? bytes[at] & 255 : 0;
        }

        private int cutToken(int i) {
            while (at < end && (sign() == ' ' || sign() == '\n')) {
                at++;
            }
            places[i] = at;
            values[i] = 0;
            if (at >= end) {
                return END;
            }
            if (isSmall(sign())) {
                return cutSmall(i);
            }
            if (isCapital(sign())) {
                return cutCapitals(i);
            }
            return isDigit(sign()) ? cutNumber(i) : cutSign();
        }

        private int cutSmall(int i) {
            int start = at;
            long name = 0;
            while (at < end && (isSmall(sign()) || isDigit(sign()))) {
                name = withSign(name, sign());
                at++;
            }
            if (at - start > MOST_LETTERS) {
                return BAD;
            }
            values[i] = name;
            int word = indexIn(WORDS, name);
            return word == NONE ? NAME : TO + word;
        }

        private int cutCapitals(int i) {
            int start = at;
            long name = 0;
            while (at < end && isCapital(sign())) {
                name = withSign(name, sign());
                at++;
            }
            int type = indexIn(Kinds.WRITTEN, name);
            if (type == NONE || at - start > MOST_LETTERS) {
                return BAD;
            }
            // INT is written behind the kinds and abilities, where the rows' numbers begin.
            values[i] = type == Kinds.ROW ? Kinds.INT : type;
            return TYPE;
        }

        private int cutNumber(int i) {
            int start = at;
            long number = 0;
            while (at < end && isDigit(sign())) {
                number = number * 10 + (sign() - '0');
                at++;
            }
            values[i] = number;
            boolean hasLetterBehind = isSmall(sign()) || isCapital(sign());
            return hasLetterBehind || at - start > MOST_DIGITS ? BAD : NUMBER;
        }

        private int cutSign() {
            int first = sign();
            at++;
            if (sign() == '=' && (first == '=' || first == '!')) {
                at++;
                return first == '=' ? EQUAL : UNEQUAL;
            }
            return SIGNS.indexOf((char) first) == NONE ? BAD : first;
        }
    }

    /** The names of the proc that is being read: all that it has made, and those known now. */
    private static final class Names {
        static final int MOST = 24;

        private final long[] codes = new long[MOST];
        private final int[] types = new int[MOST];
        private final int[] knownSlots = new int[MOST];
        private int made;
        private int known;

        void clear() {
            made = 0;
            known = 0;
        }

        boolean isFull() {
            return made >= MOST;
        }

        /** A name's slot; the name is not known before know() is called. */
        int make(long code, int type) {
            if (isFull()) {
                return 0;
            }
            codes[made] = code;
            types[made] = type;
            made++;
            return made - 1;
        }

        void know(int slot) {
            if (known < MOST && slot >= 0 && slot < MOST) {
                knownSlots[known] = slot;
                known++;
            }
        }

        int knownNow() {
            return known;
        }

        /** At the end of a block only what was known ahead of it is known. */
        void forgetDownTo(int earlier) {
            known = Math.max(0, Math.min(known, earlier));
        }

        int slotOf(long code) {
            for (int i = 0; i < known; i++) {
                if (codes[knownSlots[i]] == code) {
                    return knownSlots[i];
                }
            }
            return NONE;
        }

        int typeOf(int slot) {
            return slot < 0 || slot >= made ? Kinds.NO_VALUE : types[slot];
        }
    }

    /** A text as the machine does it: instructions, and the procs that they belong to. */
    private static final class Code {
        // What costs no fuel has a number below FIRST_ACT.
        static final int JUMP = 0;
        static final int DROP = 1;
        static final int CAUGHT = 2;
        static final int LEAVE = 3;
        static final int FIRST_ACT = 4;
        static final int NUMBER = 4;
        static final int GET = 5;
        static final int SET = 6;
        static final int ADD = 7;
        static final int SUBTRACT = 8;
        static final int MULTIPLY = 9;
        static final int EQUAL = 10;
        static final int UNEQUAL = 11;
        static final int LESS = 12;
        static final int AS = 13;
        static final int IS = 14;
        static final int AT = 15;
        static final int PUT = 16;
        static final int FIELD = 17;
        static final int SET_FIELD = 18;
        static final int SIZE = 19;
        static final int NEW_VEHICLE = 20;
        static final int NEW_ROW = 21;
        static final int SAY_INT = 22;
        static final int SAY_REFERENCE = 23;
        static final int RETURN = 24;
        static final int FAIL = 25;
        static final int UNLESS = 26;
        static final int CALL = 27;
        /** The calls of the five, in their order. */
        static final int CALL_TRACK = 28;
        static final int CALL_LAY = 29;
        static final int CALL_HUMP = 30;
        static final int CALL_SEND = 31;
        static final int CALL_NOW = 32;

        /** The procs that every text has; its own are numbered behind them. */
        static final int FIVE = 5;
        static final String FIVE_NAMES = "track lay hump send now ";
        static final int MOST_OWN_PROCS = 12;
        static final int MOST_PARAMETERS = 4;

        private static final int VEHICLE_ROW = Kinds.ROW + Kinds.VEHICLE;
        private static final int[] FIVE_PARAMETERS = {
            Kinds.INT, 0, 0, 0,
            Kinds.INT, VEHICLE_ROW, 0, 0,
            VEHICLE_ROW, VEHICLE_ROW, 0, 0,
            VEHICLE_ROW, Kinds.INT, Kinds.INT, 0,
            0, 0, 0, 0
        };
        private static final int[] FIVE_PARAMETER_COUNTS = {1, 2, 2, 3, 0};
        private static final int[] FIVE_GIVE = {VEHICLE_ROW, Kinds.INT, Kinds.INT, Kinds.INT, Kinds.INT};

        // A text's instructions are not more than its tokens, and a try takes nine of those.
        private static final int MOST = 900;
        private static final int MOST_TRIES = 100;
        private static final int MOST_PROCS = FIVE + MOST_OWN_PROCS;

        private final int[] ops = new int[MOST];
        private final int[] args = new int[MOST];
        private final int[] tokenPlaces = new int[MOST];
        private final int[] tries = new int[MOST];
        private final int[] catches = new int[MOST_TRIES];
        private final int[] starts = new int[MOST_PROCS];
        private final int[] parameterCounts = new int[MOST_PROCS];
        private final int[] parameters = new int[MOST_PROCS * MOST_PARAMETERS];
        private final int[] gives = new int[MOST_PROCS];
        private int procs;
        private int tryCount;
        int size;
        /** The try whose block is being read. */
        int openTry;

        Code() {
            System.arraycopy(FIVE_PARAMETERS, 0, parameters, 0, FIVE * MOST_PARAMETERS);
            System.arraycopy(FIVE_PARAMETER_COUNTS, 0, parameterCounts, 0, FIVE);
            System.arraycopy(FIVE_GIVE, 0, gives, 0, FIVE);
            procs = FIVE;
            openTry = NONE;
        }

        void clear() {
            size = 0;
            procs = FIVE;
            tryCount = 0;
            openTry = NONE;
        }

        int ownProcs() {
            return procs - FIVE;
        }

        private boolean isProc(int p) {
            return p >= 0 && p < procs;
        }

        // The five stay as they are, whatever a faulty text asks for.
        private boolean isOwnProc(int p) {
            return p >= FIVE && p < procs;
        }

        int addProc() {
            if (procs >= MOST_PROCS) {
                return NONE;
            }
            starts[procs] = size;
            parameterCounts[procs] = 0;
            gives[procs] = Kinds.NO_VALUE;
            procs++;
            return procs - 1;
        }

        void addParameter(int p, int type) {
            if (isOwnProc(p) && parameterCounts[p] < MOST_PARAMETERS) {
                parameters[p * MOST_PARAMETERS + parameterCounts[p]] = type;
                parameterCounts[p]++;
            }
        }

        void setGiven(int p, int type) {
            if (isOwnProc(p)) {
                gives[p] = type;
            }
        }

        int parameterCount(int p) {
            return isProc(p) ? parameterCounts[p] : 0;
        }

        int parameter(int p, int i) {
            boolean isThere = i >= 0 && i < parameterCount(p);
            return isThere ? parameters[p * MOST_PARAMETERS + i] : Kinds.NO_VALUE;
        }

        int given(int p) {
            return isProc(p) ? gives[p] : Kinds.NO_VALUE;
        }

        int start(int p) {
            return isProc(p) ? starts[p] : size;
        }

        /** Whether two ints at most are all that a proc takes. */
        boolean takesInts(int p) {
            int n = parameterCount(p);
            for (int i = 0; i < n; i++) {
                if (parameter(p, i) != Kinds.INT) {
                    return false;
                }
            }
            return n <= 2;
        }

        /** The number of the instruction that comes behind all others. */
        int emit(int op, int arg, int tokenPlace) {
            if (size >= MOST) {
                return size;
            }
            ops[size] = op;
            args[size] = arg;
            tokenPlaces[size] = tokenPlace;
            tries[size] = openTry;
            size++;
            return size - 1;
        }

        /** Takes the last instruction back: its argument. */
        int takeBack() {
            if (size <= 0) {
                return 0;
            }
            size--;
            return args[size];
        }

        /** A jump that was put ahead goes to where the code ends now. */
        void aimHere(int jump) {
            if (isInstruction(jump)) {
                args[jump] = size;
            }
        }

        int addTry() {
            if (tryCount >= MOST_TRIES) {
                return NONE;
            }
            catches[tryCount] = size;
            tryCount++;
            return tryCount - 1;
        }

        void catchHere(int aTry) {
            if (aTry >= 0 && aTry < tryCount) {
                catches[aTry] = size;
            }
        }

        private boolean isInstruction(int i) {
            return i >= 0 && i < size;
        }

        int op(int i) {
            return isInstruction(i) ? ops[i] : LEAVE;
        }

        int arg(int i) {
            return isInstruction(i) ? args[i] : 0;
        }

        int tokenPlace(int i) {
            return isInstruction(i) ? tokenPlaces[i] : NONE;
        }

        /** Where the innermost try around an instruction has its catch; NONE without a try. */
        int catchOf(int i) {
            int aTry = isInstruction(i) ? tries[i] : NONE;
            return aTry >= 0 && aTry < tryCount ? catches[aTry] : NONE;
        }
    }

    /** Reads a text token by token into code, up to its first fault. */
    private static final class Reader {
        private static final int FORM = 1;
        private static final int UNKNOWN = 2;
        private static final int TWICE = 3;
        private static final int TYPES = 4;
        private static final int TOO_MUCH = 5;

        private static final int MOST_TOKENS = 800;
        private static final int MOST_OPEN = 10;
        private static final int MOST_BLOCKS = 8;
        /** No token is taken for this one, so reading comes to its end by itself after a fault. */
        private static final int STOP = 0;

        private static final String FIELDS = "tag behind mass grip pull load chill reach fuel ";
        private static final int[] FIELD_OWNERS = {
            Kinds.VEHICLE, Kinds.VEHICLE, Kinds.VEHICLE, Kinds.BRAKES, Kinds.ENGINE,
            Kinds.HOLDS, Kinds.COOLS, Kinds.LIFTS, Kinds.BURNS
        };

        // What a unit ends with decides whether it may stand to the left of = or ahead of a ;
        private static final int IS_NAME = 0;
        private static final int IS_CALL = 1;
        private static final int ENDS_WITH_INDEX = 2;
        private static final int ENDS_WITH_FIELD = 3;
        private static final int IS_OTHER = 4;

        private final Tape tape;
        private final Names names = new Names();
        private final long[] procNames = new long[Code.MOST_OWN_PROCS];
        private Code code;
        private int proc;
        private int at;
        private int kind;
        private int tokenPlace;
        private long value;
        private int nextKind;
        private int shape;
        int fault;
        int faultPlace = NONE;

        Reader(Tape tape, Code code) {
            this.tape = tape;
            this.code = code;
        }

        void read(Code into) {
            code = into;
            code.clear();
            proc = NONE;
            fault = 0;
            faultPlace = NONE;
            at = NONE;
            pass();
            for (int i = 0; i <= MOST_TOKENS && fault == 0 && (i == 0 || kind != Tape.END); i++) {
                readHead();
                readBlock(0);
                code.emit(Code.LEAVE, 0, NONE);
            }
        }

        private void refuse(int why, int where) {
            if (fault == 0) {
                fault = why;
                faultPlace = where;
                kind = STOP;
                nextKind = STOP;
            }
        }

        /** Goes behind a token of which nothing more is asked but that it is not one too many. */
        private void pass() {
            int i = at + 1;
            if (fault == 0 && i > MOST_TOKENS) {
                fault = TOO_MUCH;
                faultPlace = tokenPlace;
            }
            boolean goesOn = fault == 0 && i >= 0 && i < tape.tokens;
            kind = goesOn ? tape.kinds[i] : STOP;
            nextKind = goesOn && i + 1 < tape.tokens ? tape.kinds[i + 1] : STOP;
            if (goesOn) {
                at = i;
                tokenPlace = tape.places[i];
                value = tape.values[i];
            }
        }

        /** A token at which the types ahead of it are judged. */
        private void expectFit(int wanted, boolean fits) {
            if (kind != wanted) {
                refuse(FORM, tokenPlace);
            } else if (!fits) {
                refuse(TYPES, tokenPlace);
            }
            pass();
        }

        private void expect(int wanted) {
            if (kind != wanted) {
                refuse(FORM, tokenPlace);
            }
            pass();
        }

        /** A ( or [ within a statement that has some open already. */
        private void expectOpening(int wanted, int open) {
            if (kind != wanted || open >= MOST_OPEN) {
                refuse(FORM, tokenPlace);
            }
            pass();
        }

        private void readHead() {
            expect(Tape.TO);
            readProcName();
            names.clear();
            expect('(');
            if (kind != ')') {
                readParameter();
                for (int i = 0; i <= MOST_TOKENS && kind == ','; i++) {
                    pass();
                    readParameter();
                }
            }
            expect(')');
            if (kind == ':') {
                pass();
                code.setGiven(proc, readType());
            }
        }

        private void readProcName() {
            int own = code.ownProcs();
            if (kind != Tape.NAME) {
                refuse(FORM, tokenPlace);
            } else if (findProc(value) != NONE) {
                refuse(TWICE, tokenPlace);
            } else if (own < 0 || own >= Code.MOST_OWN_PROCS) {
                refuse(TOO_MUCH, tokenPlace);
            } else {
                procNames[own] = value;
                proc = code.addProc();
                pass();
            }
        }

        private int findProc(long name) {
            int own = code.ownProcs();
            for (int i = 0; i < own && i < Code.MOST_OWN_PROCS; i++) {
                if (procNames[i] == name) {
                    return Code.FIVE + i;
                }
            }
            return Tape.indexIn(Code.FIVE_NAMES, name);
        }

        private void readParameter() {
            int type = readType();
            boolean oneTooMany = code.parameterCount(proc) >= Code.MOST_PARAMETERS;
            int slot = readNewName(type, oneTooMany);
            names.know(slot);
            code.addParameter(proc, type);
        }

        private int readNewName(int type, boolean oneTooMany) {
            if (kind != Tape.NAME) {
                refuse(FORM, tokenPlace);
            } else if (names.slotOf(value) != NONE) {
                refuse(TWICE, tokenPlace);
            } else if (oneTooMany || names.isFull()) {
                refuse(TOO_MUCH, tokenPlace);
            }
            int slot = names.make(value, type);
            pass();
            return slot;
        }

        private int readType() {
            int type = readTypeUpToLast();
            pass();
            return type;
        }

        /** A type whose last token is still looked at: as and is are judged there. */
        private int readTypeUpToLast() {
            if (kind != Tape.TYPE) {
                refuse(FORM, tokenPlace);
                return Kinds.NO_VALUE;
            }
            int type = (int) value;
            if (type == Kinds.INT || nextKind != '[') {
                return type;
            }
            pass();
            pass();
            if (kind != ']') {
                refuse(FORM, tokenPlace);
            }
            return Kinds.ROW + type;
        }

        private void readBlock(int blocks) {
            if (kind != '{' || blocks >= MOST_BLOCKS) {
                refuse(FORM, tokenPlace);
            }
            pass();
            int earlier = names.knownNow();
            for (int i = 0; i <= MOST_TOKENS && fault == 0 && kind != '}'; i++) {
                readStatement(blocks + 1);
            }
            expect('}');
            names.forgetDownTo(earlier);
        }

        private void readStatement(int blocks) {
            switch (kind) {
                case Tape.VAR:
                    readVar();
                    break;
                case Tape.IF:
                    readIf(blocks);
                    break;
                case Tape.WHILE:
                    readWhile(blocks);
                    break;
                case Tape.TRY:
                    readTry(blocks);
                    break;
                case Tape.RETURN:
                    readReturn();
                    break;
                case Tape.SAY:
                    readSay();
                    break;
                case Tape.FAIL:
                    readFail();
                    break;
                default:
                    readPlaceOrCall();
                    break;
            }
        }

        private void readVar() {
            pass();
            int type = readType();
            int slot = readNewName(type, false);
            int signPlace = tokenPlace;
            expect('=');
            int given = readExpression(0);
            expectFit(';', Kinds.fits(given, type));
            names.know(slot);
            code.emit(Code.SET, slot, signPlace);
        }

        private void readPlaceOrCall() {
            int wanted = readUnit(0);
            int ending = shape;
            if (ending == IS_CALL) {
                expect(';');
                code.emit(Code.DROP, 0, NONE);
                return;
            }
            if (kind != '=' || ending == IS_OTHER) {
                refuse(FORM, tokenPlace);
                return;
            }
            // The unit's last step gets a value instead of giving one.
            int target = code.takeBack();
            int signPlace = tokenPlace;
            expectFit('=', ending != ENDS_WITH_FIELD || !Vehicle.isReckoned(target));
            int given = readExpression(0);
            expectFit(';', Kinds.fits(given, wanted));
            if (ending == IS_NAME) {
                code.emit(Code.SET, target, signPlace);
            } else {
                code.emit(ending == ENDS_WITH_FIELD ? Code.SET_FIELD : Code.PUT, target, signPlace);
            }
        }

        /** The ( ) of if and while: the jump that is taken when it is 0. */
        private int readCondition(int wordPlace) {
            expectOpening('(', 0);
            int type = readExpression(1);
            expectFit(')', type == Kinds.INT);
            return code.emit(Code.UNLESS, 0, wordPlace);
        }

        private void readIf(int blocks) {
            int wordPlace = tokenPlace;
            pass();
            int unless = readCondition(wordPlace);
            readBlock(blocks);
            if (kind != Tape.ELSE) {
                code.aimHere(unless);
                return;
            }
            pass();
            int over = code.emit(Code.JUMP, 0, NONE);
            code.aimHere(unless);
            readBlock(blocks);
            code.aimHere(over);
        }

        private void readWhile(int blocks) {
            int wordPlace = tokenPlace;
            int start = code.size;
            pass();
            int unless = readCondition(wordPlace);
            readBlock(blocks);
            code.emit(Code.JUMP, start, NONE);
            code.aimHere(unless);
        }

        private void readTry(int blocks) {
            pass();
            int outer = code.openTry;
            int own = code.addTry();
            code.openTry = own;
            readBlock(blocks);
            code.openTry = outer;
            int over = code.emit(Code.JUMP, 0, NONE);
            expect(Tape.CATCH);
            expect('(');
            int slot = readNewName(Kinds.INT, false);
            expect(')');
            code.catchHere(own);
            code.emit(Code.CAUGHT, slot, NONE);
            int earlier = names.knownNow();
            names.know(slot);
            readBlock(blocks);
            names.forgetDownTo(earlier);
            code.aimHere(over);
        }

        private void readReturn() {
            int wordPlace = tokenPlace;
            int wanted = code.given(proc);
            pass();
            if (kind == ';') {
                expectFit(';', wanted == Kinds.NO_VALUE);
                code.emit(Code.RETURN, 0, wordPlace);
                return;
            }
            int given = readExpression(0);
            expectFit(';', Kinds.fits(given, wanted));
            code.emit(Code.RETURN, 1, wordPlace);
        }

        private void readSay() {
            int wordPlace = tokenPlace;
            pass();
            int type = readExpression(0);
            expectFit(';', type != Kinds.NO_VALUE);
            code.emit(type == Kinds.INT ? Code.SAY_INT : Code.SAY_REFERENCE, 0, wordPlace);
        }

        private void readFail() {
            int wordPlace = tokenPlace;
            pass();
            int type = readExpression(0);
            expectFit(';', type == Kinds.INT);
            code.emit(Code.FAIL, 0, wordPlace);
        }

        private int readExpression(int open) {
            int left = readSum(open);
            int sign = kind;
            if (sign != Tape.EQUAL && sign != Tape.UNEQUAL && sign != '<') {
                return left;
            }
            int signPlace = tokenPlace;
            expectFit(sign, left != Kinds.NO_VALUE && (sign != '<' || left == Kinds.INT));
            int right = readSum(open);
            if (left == Kinds.INT ? right != Kinds.INT : !Kinds.isReference(right)) {
                refuse(TYPES, signPlace);
            }
            if (sign == '<') {
                code.emit(Code.LESS, 0, signPlace);
            } else {
                code.emit(sign == Tape.EQUAL ? Code.EQUAL : Code.UNEQUAL, 0, signPlace);
            }
            return Kinds.INT;
        }

        private int readSum(int open) {
            int left = readProduct(open);
            for (int i = 0; i <= MOST_TOKENS && (kind == '+' || kind == '-'); i++) {
                int op = kind == '+' ? Code.ADD : Code.SUBTRACT;
                int signPlace = tokenPlace;
                expectFit(kind, left == Kinds.INT);
                int right = readProduct(open);
                left = finishSign(op, right, signPlace);
            }
            return left;
        }

        private int readProduct(int open) {
            int left = readUnit(open);
            for (int i = 0; i <= MOST_TOKENS && kind == '*'; i++) {
                int signPlace = tokenPlace;
                expectFit('*', left == Kinds.INT);
                int right = readUnit(open);
                left = finishSign(Code.MULTIPLY, right, signPlace);
            }
            return left;
        }

        /** Judges what is to the right of a sign of ints: the type of the whole. */
        private int finishSign(int op, int right, int signPlace) {
            if (right != Kinds.INT) {
                refuse(TYPES, signPlace);
            }
            code.emit(op, 0, signPlace);
            return Kinds.INT;
        }

        private int readUnit(int open) {
            int type = readFirst(open);
            for (int i = 0; i <= MOST_TOKENS; i++) {
                if (kind == '[') {
                    type = readIndex(type, open);
                } else if (kind == '.') {
                    type = readMember(type);
                } else if (kind == Tape.AS || kind == Tape.IS) {
                    type = readAsked(type);
                } else {
                    break;
                }
            }
            return type;
        }

        private int readFirst(int open) {
            int first = tokenPlace;
            switch (kind) {
                case Tape.NUMBER:
                    return readNumber(1, first);
                case '-':
                    pass();
                    return readNumber(-1, first);
                case Tape.NOTHING:
                    pass();
                    shape = IS_OTHER;
                    code.emit(Code.NUMBER, Yard.NOTHING, first);
                    return Kinds.NOTHING;
                case Tape.NAME:
                    return nextKind == '(' ? readCall(open) : readValueOfName();
                case Tape.NEW:
                    return readNew(open);
                case '(':
                    expectOpening('(', open);
                    int type = readExpression(open + 1);
                    expect(')');
                    shape = IS_OTHER;
                    return type;
                default:
                    refuse(FORM, tokenPlace);
                    return Kinds.NO_VALUE;
            }
        }

        private int readNumber(int factor, int first) {
            int number = factor * (int) value;
            expect(Tape.NUMBER);
            code.emit(Code.NUMBER, number, first);
            shape = IS_OTHER;
            return Kinds.INT;
        }

        private int readValueOfName() {
            int slot = names.slotOf(value);
            if (slot == NONE) {
                refuse(UNKNOWN, tokenPlace);
            }
            code.emit(Code.GET, slot, tokenPlace);
            pass();
            shape = IS_NAME;
            return names.typeOf(slot);
        }

        private int readCall(int open) {
            int namePlace = tokenPlace;
            int called = findProc(value);
            if (called == NONE) {
                refuse(UNKNOWN, tokenPlace);
            }
            pass();
            expectOpening('(', open);
            int read = 0;
            if (kind != ')') {
                readArgument(called, read, open + 1);
                read++;
                for (int i = 0; i <= MOST_TOKENS && kind == ','; i++) {
                    pass();
                    readArgument(called, read, open + 1);
                    read++;
                }
            }
            expectFit(')', read >= code.parameterCount(called));
            if (called < Code.FIVE) {
                code.emit(Code.CALL_TRACK + called, 0, namePlace);
            } else {
                code.emit(Code.CALL, called, namePlace);
            }
            shape = IS_CALL;
            return code.given(called);
        }

        private void readArgument(int called, int i, int open) {
            int type = readExpression(open);
            boolean isJudged = kind == ',' || kind == ')';
            if (isJudged && !Kinds.fits(type, code.parameter(called, i))) {
                refuse(TYPES, tokenPlace);
            }
        }

        private int readNew(int open) {
            int wordPlace = tokenPlace;
            pass();
            int of = (int) value;
            if (kind != Tape.TYPE || of == Kinds.INT) {
                refuse(FORM, tokenPlace);
            }
            pass();
            if (kind == '(' && Kinds.isKind(of)) {
                expectOpening('(', open);
                expect(')');
                code.emit(Code.NEW_VEHICLE, of, wordPlace);
                shape = IS_OTHER;
                return of;
            }
            expectOpening('[', open);
            int type = readExpression(open + 1);
            expectFit(']', type == Kinds.INT);
            code.emit(Code.NEW_ROW, of, wordPlace);
            shape = IS_OTHER;
            return Kinds.ROW + of;
        }

        private int readIndex(int row, int open) {
            int signPlace = tokenPlace;
            expectOpening('[', open);
            int index = readExpression(open + 1);
            expectFit(']', Kinds.isRow(row) && index == Kinds.INT);
            code.emit(Code.AT, 0, signPlace);
            shape = ENDS_WITH_INDEX;
            return row - Kinds.ROW;
        }

        private int readMember(int type) {
            pass();
            int namePlace = tokenPlace;
            if (kind == Tape.SIZE) {
                expectFit(Tape.SIZE, Kinds.isRow(type));
                code.emit(Code.SIZE, 0, namePlace);
                shape = IS_OTHER;
                return Kinds.INT;
            }
            int field = Tape.indexIn(FIELDS, value);
            if (kind != Tape.NAME) {
                refuse(FORM, tokenPlace);
            } else if (field < 0 || field >= FIELD_OWNERS.length) {
                refuse(UNKNOWN, tokenPlace);
            } else {
                expectFit(Tape.NAME, Kinds.fits(type, FIELD_OWNERS[field]));
                code.emit(Code.FIELD, field, namePlace);
            }
            shape = ENDS_WITH_FIELD;
            return field == Vehicle.BEHIND ? Kinds.VEHICLE : Kinds.INT;
        }

        private int readAsked(int type) {
            boolean isAs = kind == Tape.AS;
            int wordPlace = tokenPlace;
            pass();
            int asked = readTypeUpToLast();
            if (!Kinds.mayBeAsked(type, asked)) {
                refuse(TYPES, tokenPlace);
            }
            pass();
            code.emit(isAs ? Code.AS : Code.IS, asked, wordPlace);
            shape = IS_OTHER;
            return isAs ? asked : Kinds.INT;
        }
    }

    private static final class Vehicle {
        static final int TAG = 0;
        static final int BEHIND = 1;
        static final int MASS = 2;
        static final int GRIP = 3;
        static final int PULL = 4;
        static final int LOAD = 5;
        static final int CHILL = 6;
        static final int REACH = 7;
        static final int FUEL = 8;

        private static final int VEHICLE_MASS = 5;
        private static final int ENGINE_MASS = VEHICLE_MASS + 40;
        private static final int WAGON_MASS = VEHICLE_MASS + 10;
        private static final int ENGINE_GRIP = 10;
        private static final int DIESEL_GRIP = 2 * ENGINE_GRIP;
        private static final int DIESEL_PULL = 300;

        final int kind;
        final int number;
        private int tag;
        /** A reference, as Yard tells them. */
        private int behind;
        private int load;
        private int chill;
        private int reach;
        private int fuel;

        Vehicle(int kind, int number) {
            this.kind = kind;
            this.number = number;
        }

        /** Whether a field is worked out from others, so that nothing can go there. */
        static boolean isReckoned(int field) {
            return field == MASS || field == GRIP || field == PULL;
        }

        int field(int field) {
            switch (field) {
                case TAG: return tag;
                case BEHIND: return behind;
                case MASS: return mass();
                case GRIP: return grip();
                case PULL: return pull();
                case LOAD: return load;
                case CHILL: return chill;
                case REACH: return reach;
                case FUEL: return fuel;
                default: return 0;
            }
        }

        void setField(int field, int value) {
            switch (field) {
                case TAG: tag = value; break;
                case BEHIND: behind = value; break;
                case LOAD: load = value; break;
                case CHILL: chill = value; break;
                case REACH: reach = value; break;
                case FUEL: fuel = value; break;
                default: break;
            }
        }

        int tell(int what) {
            if (what < 0 || what > FUEL + 1) {
                return NONE;
            }
            if (what == 0) {
                return kind;
            }
            // The fields are told in their own order, from 1 on.
            int value = field(what - 1);
            return what - 1 == BEHIND ? value - 1 : value;
        }

        // Only what burns ever has fuel.
        void burn() {
            if (fuel > 0) {
                fuel--;
            }
        }

        private int mass() {
            switch (kind) {
                case Kinds.ENGINE: return ENGINE_MASS;
                case Kinds.STEAM: return ENGINE_MASS + fuel;
                case Kinds.DIESEL: return ENGINE_MASS + fuel / 2;
                case Kinds.SHUNTER: return ENGINE_MASS + fuel / 2 - 20;
                case Kinds.WAGON: return WAGON_MASS;
                case Kinds.BOX: return WAGON_MASS + load;
                case Kinds.REEFER: return WAGON_MASS + load + fuel + 3;
                case Kinds.TANK: return WAGON_MASS + 2 * load;
                case Kinds.MILKER: return WAGON_MASS + 2 * load + (chill < 0 ? 1 : 0);
                case Kinds.FLAT: return WAGON_MASS + load;
                case Kinds.CRANE: return WAGON_MASS + load + reach;
                case Kinds.VAN: return WAGON_MASS + 2;
                default: return VEHICLE_MASS;
            }
        }

        private int grip() {
            switch (kind) {
                case Kinds.ENGINE: return ENGINE_GRIP;
                case Kinds.STEAM: return ENGINE_GRIP + 5;
                case Kinds.DIESEL: return DIESEL_GRIP;
                case Kinds.SHUNTER: return DIESEL_GRIP - 3;
                case Kinds.VAN: return 25;
                default: return 0;
            }
        }

        private int pull() {
            switch (kind) {
                case Kinds.STEAM: return 20 * fuel;
                case Kinds.DIESEL: return DIESEL_PULL;
                case Kinds.SHUNTER: return DIESEL_PULL / 2;
                default: return 0;
            }
        }
    }

    private static final class Row {
        final int of;
        final int number;
        final int size;
        private final Vehicle[] places;

        Row(int of, int number, int size) {
            this.of = of;
            this.number = number;
            this.size = Math.max(0, size);
            places = new Vehicle[this.size];
        }

        boolean hasPlace(int i) {
            return i >= 0 && i < size;
        }

        Vehicle vehicleAt(int i) {
            return hasPlace(i) ? places[i] : null;
        }

        void put(int i, Vehicle vehicle) {
            if (hasPlace(i)) {
                places[i] = vehicle;
            }
        }

        /** Whether a vehicle, or nothing, may be at a place of this row. */
        boolean takes(Vehicle vehicle) {
            return vehicle == null || Kinds.isBelow(vehicle.kind, of);
        }

        /** Vehicles go to the free places of another row: how many. */
        int humpInto(Row other) {
            int gone = 0;
            int free = 0;
            for (int i = 0; i < size && this != other; i++) {
                Vehicle vehicle = places[i];
                if (vehicle != null && other.takes(vehicle)) {
                    free = other.firstFree(free);
                    if (!other.hasPlace(free)) {
                        break;
                    }
                    other.put(free, vehicle);
                    places[i] = null;
                    gone++;
                }
            }
            return gone;
        }

        private int firstFree(int start) {
            for (int i = Math.max(0, start); i < size; i++) {
                if (places[i] == null) {
                    return i;
                }
            }
            return size;
        }

        int sum(int field) {
            int sum = 0;
            for (int i = 0; i < size; i++) {
                Vehicle vehicle = places[i];
                if (vehicle != null) {
                    sum += vehicle.field(field);
                }
            }
            return sum;
        }

        void burn() {
            for (int i = 0; i < size; i++) {
                Vehicle vehicle = places[i];
                if (vehicle != null) {
                    vehicle.burn();
                }
            }
        }
    }

    /**
     * All vehicles and rows. A reference is a number: NOTHING, 1 more than the number of a vehicle,
     * or below 0 for a row, so that ints and references lie on one stack.
     */
    private static final class Yard {
        static final int NOTHING = 0;

        private static final int MOST_VEHICLES = 300;
        private static final int MOST_ROWS = 200;
        private static final int MOST_PLACES = 2000;
        private static final int MOST_IN_ROW = 40;

        final Vehicle[] vehicles = new Vehicle[MOST_VEHICLES];
        private final Row[] rows = new Row[MOST_ROWS];
        int vehicleCount;
        int rowCount;
        int placeCount;

        boolean hasRoomForVehicle() {
            return vehicleCount < MOST_VEHICLES;
        }

        boolean hasRoomForRow(int size) {
            return rowCount < MOST_ROWS && size <= MOST_IN_ROW && placeCount + size <= MOST_PLACES;
        }

        int makeVehicle(int kind) {
            if (!hasRoomForVehicle()) {
                return NOTHING;
            }
            vehicles[vehicleCount] = new Vehicle(kind, vehicleCount);
            vehicleCount++;
            return vehicleCount;
        }

        int makeRow(int of, int size) {
            if (size < 0 || !hasRoomForRow(size)) {
                return NOTHING;
            }
            rows[rowCount] = new Row(of, rowCount, size);
            rowCount++;
            placeCount += size;
            return -rowCount;
        }

        /** null if the reference is to no vehicle. */
        Vehicle vehicleOf(int reference) {
            return reference > 0 && reference <= vehicleCount ? vehicles[reference - 1] : null;
        }

        /** null if the reference is to no row. */
        Row rowOf(int reference) {
            return reference < 0 && reference >= -rowCount ? rows[-reference - 1] : null;
        }

        static int referenceToVehicle(Vehicle vehicle) {
            return vehicle == null ? NOTHING : vehicle.number + 1;
        }

        static int referenceToRow(Row row) {
            return row == null ? NOTHING : -1 - row.number;
        }

        /** The type of a thing as it is; NONE for NOTHING. */
        int typeOf(int reference) {
            Row row = rowOf(reference);
            if (row != null) {
                return Kinds.ROW + row.of;
            }
            Vehicle vehicle = vehicleOf(reference);
            return vehicle == null ? NONE : vehicle.kind;
        }
    }

    private static final class Train {
        static final int ON_ITS_WAY = 0;
        static final int THERE = 1;
        static final int STANDS = 2;

        final Row row;
        final int goal;
        int miles;
        int speed;
        int stage;

        Train(Row row, int goal, int miles) {
            this.row = row;
            this.goal = goal;
            this.miles = miles;
        }

        void move() {
            speed = reckonSpeed();
            miles = Math.max(0, miles - speed);
            if (speed > 0) {
                row.burn();
            }
        }

        private int reckonSpeed() {
            int mass = row.sum(Vehicle.MASS);
            if (mass < 1) {
                return 0;
            }
            int most = row.sum(Vehicle.GRIP) / 5 + 1;
            return Math.max(0, Math.min(row.sum(Vehicle.PULL) / mass, most));
        }
    }

    /** The tracks, the trains that go to them, and the clock. */
    private static final class Line {
        static final int MOST_TICKS = 200;
        private static final int TRACKS = 8;
        private static final int MOST_TRAINS = 10;
        private static final int MOST_MILES = 1000;

        private final int[] stated = new int[TRACKS];
        private final Row[] trackRows = new Row[TRACKS];
        private final Train[] trains = new Train[MOST_TRAINS];
        int trainCount;
        int clock;

        private static boolean isTrack(int n) {
            return n >= 0 && n < TRACKS;
        }

        boolean setStated(int n, int what) {
            if (!isTrack(n) || !Kinds.isKindOrAbility(what)) {
                return false;
            }
            stated[n] = what;
            Row row = trackRows[n];
            if (row != null && !Kinds.isBelow(row.of, what)) {
                trackRows[n] = null;
            }
            return true;
        }

        Row rowOn(int n) {
            return isTrack(n) ? trackRows[n] : null;
        }

        boolean lay(int n, Row row) {
            if (!isTrack(n) || row != null && !Kinds.isBelow(row.of, stated[n])) {
                return false;
            }
            trackRows[n] = row;
            return true;
        }

        int send(Row row, int n, int miles) {
            boolean isFit = isTrack(n) && miles >= 1 && miles <= MOST_MILES;
            if (!isFit || trainCount >= MOST_TRAINS) {
                return NONE;
            }
            trains[trainCount] = new Train(row, n, miles);
            trainCount++;
            return trainCount - 1;
        }

        /** How many trains came to their goals in so many ticks. */
        int passTime(int ticks) {
            int ended = 0;
            for (int i = 0; i < ticks; i++) {
                clock++;
                for (int t = 0; t < trainCount; t++) {
                    Train train = trains[t];
                    if (train != null && train.stage == Train.ON_ITS_WAY) {
                        ended += move(train) ? 1 : 0;
                    }
                }
            }
            return ended;
        }

        private boolean move(Train train) {
            train.move();
            if (train.miles > 0) {
                return false;
            }
            train.stage = lay(train.goal, train.row) ? Train.THERE : Train.STANDS;
            return true;
        }

        int tellTrack(int n, int what) {
            if (!isTrack(n)) {
                return NONE;
            }
            Row row = trackRows[n];
            switch (what) {
                case 0: return stated[n];
                case 1: return row == null ? NONE : row.of;
                case 2: return row == null ? 0 : row.size;
                case 3: return row == null ? NONE : leastTrackWith(row);
                default: return NONE;
            }
        }

        private int leastTrackWith(Row row) {
            for (int n = 0; n < TRACKS; n++) {
                if (trackRows[n] == row) {
                    return n;
                }
            }
            return NONE;
        }

        int tellTrain(int t, int what) {
            Train train = t < 0 || t >= trainCount ? null : trains[t];
            if (train == null) {
                return NONE;
            }
            switch (what) {
                case 0: return train.stage;
                case 1: return train.goal;
                case 2: return train.miles;
                case 3: return train.speed;
                case 4: return train.row.sum(Vehicle.MASS);
                default: return NONE;
            }
        }
    }

    /** Does a proc, act by act. */
    private static final class Machine {
        static final int MOST_FUEL = 2000;
        private static final int MOST_FAULTS = 600;
        private static final int MOST_SAID = 300;
        private static final int MOST_DEEP = 15;

        private static final int DONE = 0;
        private static final int NO_THING = 1;
        private static final int NO_PLACE = 2;
        private static final int BAD_SIZE = 3;
        private static final int OTHER_KIND = 4;
        private static final int BAD_STORE = 5;
        private static final int OWN = 6;
        private static final int NO_FUEL = 7;
        private static final int NO_ROOM = 8;
        private static final int TOO_DEEP = 9;
        private static final int GOING_ON = 10;

        /** Brackets open ten deep at most, so a proc leaves some seventy values waiting at most. */
        private static final int STACK = MOST_DEEP * (Names.MOST + 80);
        /** Far above what fuel allows: what costs none is never done again without an act between. */
        private static final int MOST_STEPS = 10000000;
        private static final int SAID_OF_NOTHING = -1000;

        private final Yard yard;
        private final Line line;
        private final int[] stack = new int[STACK];
        private final int[] bases = new int[MOST_DEEP];
        private final int[] backs = new int[MOST_DEEP];
        private final int[] lastRun = new int[7];
        private boolean hasRun;
        private Code code;
        private int top;
        private int deep;
        private int next;
        private int fuel;
        private int outcome;
        private int outcomeAt;
        private int given;
        final int[] saidNumbers = new int[MOST_SAID];
        int saidCount;
        int faults;

        Machine(Yard yard, Line line, Code code) {
            this.yard = yard;
            this.line = line;
            this.code = code;
        }

        int start(Code text, int proc, int x, int y, int withFuel) {
            code = text;
            top = 0;
            deep = 0;
            fuel = withFuel;
            outcome = GOING_ON;
            outcomeAt = NONE;
            given = 0;
            if (code.parameterCount(proc) > 0) {
                push(x);
            }
            if (code.parameterCount(proc) > 1) {
                push(y);
            }
            enter(proc);
            for (int i = 0; i < MOST_STEPS && outcome == GOING_ON; i++) {
                int op = code.op(next);
                int arg = code.arg(next);
                next++;
                if (op < Code.FIRST_ACT) {
                    doFree(op, arg);
                } else if (fuel <= 0) {
                    end(NO_FUEL);
                } else {
                    fuel--;
                    doAct(op, arg);
                }
            }
            keepRun(code.given(proc));
            return outcome;
        }

        private void keepRun(int type) {
            boolean isDone = outcome == DONE;
            boolean isReference = isDone && Kinds.isReference(type);
            Row row = isReference ? yard.rowOf(given) : null;
            hasRun = true;
            lastRun[0] = outcome;
            lastRun[1] = isDone && type == Kinds.INT ? given : 0;
            lastRun[2] = isReference ? yard.typeOf(given) : NONE;
            lastRun[3] = isReference ? given - 1 : NONE;
            if (row != null) {
                lastRun[3] = row.size;
            }
            lastRun[4] = fuel;
            lastRun[5] = outcome == OWN ? given : 0;
            lastRun[6] = isDone ? NONE : code.tokenPlace(outcomeAt);
        }

        int tellRun(int what) {
            return !hasRun || what < 0 || what >= lastRun.length ? NONE : lastRun[what];
        }

        private void push(int value) {
            if (top >= 0 && top < STACK) {
                stack[top] = value;
                top++;
            }
        }

        private int pop() {
            if (top <= 0 || top > STACK) {
                return 0;
            }
            top--;
            return stack[top];
        }

        /** Where the names of the proc that is under way begin. */
        private int base() {
            return deep > 0 && deep <= MOST_DEEP ? bases[deep - 1] : 0;
        }

        private int nameValue(int slot) {
            int i = base() + slot;
            return i >= 0 && i < STACK ? stack[i] : 0;
        }

        private void setName(int slot, int value) {
            int i = base() + slot;
            if (i >= 0 && i < STACK) {
                stack[i] = value;
            }
        }

        /** The arguments that lie on the stack become the proc's first names. */
        private void enter(int proc) {
            if (deep >= MOST_DEEP) {
                end(TOO_DEEP);
                return;
            }
            bases[deep] = top - code.parameterCount(proc);
            backs[deep] = next;
            top = bases[deep] + Names.MOST;
            deep++;
            next = code.start(proc);
        }

        private void leave(int value) {
            top = base();
            if (deep > 0) {
                deep--;
                next = backs[deep];
            }
            if (deep > 0) {
                push(value);
            } else {
                given = value;
                outcome = DONE;
            }
        }

        private void end(int why) {
            outcome = why;
            outcomeAt = next - 1;
        }

        private void raise(int why) {
            raiseWith(why, why);
        }

        /** The innermost try takes the fault, and its catch finds the value on the stack. */
        private void raiseWith(int why, int value) {
            if (faults >= MOST_FAULTS) {
                end(NO_ROOM);
                return;
            }
            faults++;
            int at = next - 1;
            for (int d = Math.min(deep, MOST_DEEP) - 1; d >= 0; d--) {
                int catchAt = code.catchOf(at);
                if (catchAt != NONE) {
                    deep = d + 1;
                    top = bases[d] + Names.MOST;
                    push(value);
                    next = catchAt;
                    return;
                }
                at = backs[d] - 1;
            }
            given = value;
            end(why);
        }

        private void doFree(int op, int arg) {
            switch (op) {
                case Code.JUMP:
                    next = arg;
                    break;
                case Code.DROP:
                    pop();
                    break;
                case Code.CAUGHT:
                    setName(arg, pop());
                    break;
                default:
                    leave(0);
                    break;
            }
        }

        private void doAct(int op, int arg) {
            switch (op) {
                case Code.NUMBER: push(arg); break;
                case Code.GET: push(nameValue(arg)); break;
                case Code.SET: setName(arg, pop()); break;
                case Code.AS: doAs(arg); break;
                case Code.IS: doIs(arg); break;
                case Code.AT: doAt(); break;
                case Code.PUT: doPut(); break;
                case Code.FIELD: doField(arg); break;
                case Code.SET_FIELD: doSetField(arg); break;
                case Code.SIZE: doSize(); break;
                case Code.NEW_VEHICLE: doNewVehicle(arg); break;
                case Code.NEW_ROW: doNewRow(arg); break;
                case Code.SAY_INT: say(pop()); break;
                case Code.SAY_REFERENCE: sayReference(); break;
                case Code.RETURN: leave(arg == 1 ? pop() : 0); break;
                case Code.FAIL: raiseWith(OWN, pop()); break;
                case Code.UNLESS: next = pop() == 0 ? arg : next; break;
                case Code.CALL: enter(arg); break;
                case Code.CALL_TRACK: push(Yard.referenceToRow(line.rowOn(pop()))); break;
                case Code.CALL_LAY: doLay(); break;
                case Code.CALL_HUMP: doHump(); break;
                case Code.CALL_SEND: doSend(); break;
                case Code.CALL_NOW: push(line.clock); break;
                default: doSign(op); break;
            }
        }

        private void doSign(int op) {
            int right = pop();
            int left = pop();
            switch (op) {
                case Code.ADD: push(left + right); break;
                case Code.SUBTRACT: push(left - right); break;
                case Code.MULTIPLY: push(left * right); break;
                case Code.EQUAL: push(left == right ? 1 : 0); break;
                case Code.UNEQUAL: push(left != right ? 1 : 0); break;
                default: push(left < right ? 1 : 0); break;
            }
        }

        private void doAs(int type) {
            int thing = pop();
            if (thing != Yard.NOTHING && !Kinds.isBelow(yard.typeOf(thing), type)) {
                raise(OTHER_KIND);
            } else {
                push(thing);
            }
        }

        private void doIs(int type) {
            int thing = pop();
            push(thing != Yard.NOTHING && Kinds.isBelow(yard.typeOf(thing), type) ? 1 : 0);
        }

        private void doAt() {
            int i = pop();
            Row row = yard.rowOf(pop());
            if (row == null) {
                raise(NO_THING);
            } else if (!row.hasPlace(i)) {
                raise(NO_PLACE);
            } else {
                push(Yard.referenceToVehicle(row.vehicleAt(i)));
            }
        }

        private void doPut() {
            Vehicle vehicle = yard.vehicleOf(pop());
            int i = pop();
            Row row = yard.rowOf(pop());
            if (row == null) {
                raise(NO_THING);
            } else if (!row.hasPlace(i)) {
                raise(NO_PLACE);
            } else if (!row.takes(vehicle)) {
                raise(BAD_STORE);
            } else {
                row.put(i, vehicle);
            }
        }

        private void doField(int field) {
            Vehicle vehicle = yard.vehicleOf(pop());
            if (vehicle == null) {
                raise(NO_THING);
            } else {
                push(vehicle.field(field));
            }
        }

        private void doSetField(int field) {
            int value = pop();
            Vehicle vehicle = yard.vehicleOf(pop());
            if (vehicle == null) {
                raise(NO_THING);
            } else {
                vehicle.setField(field, value);
            }
        }

        private void doSize() {
            Row row = yard.rowOf(pop());
            if (row == null) {
                raise(NO_THING);
            } else {
                push(row.size);
            }
        }

        private void doNewVehicle(int kind) {
            if (yard.hasRoomForVehicle()) {
                push(yard.makeVehicle(kind));
            } else {
                end(NO_ROOM);
            }
        }

        private void doNewRow(int of) {
            int size = pop();
            if (!yard.hasRoomForRow(size)) {
                end(NO_ROOM);
            } else if (size < 0) {
                raise(BAD_SIZE);
            } else {
                push(yard.makeRow(of, size));
            }
        }

        private void say(int number) {
            if (saidCount < MOST_SAID) {
                saidNumbers[saidCount] = number;
                saidCount++;
            }
        }

        private void sayReference() {
            int reference = pop();
            Row row = yard.rowOf(reference);
            if (row != null) {
                say(-1 - row.size);
            } else {
                say(reference == Yard.NOTHING ? SAID_OF_NOTHING : reference - 1);
            }
        }

        private void doLay() {
            Row row = yard.rowOf(pop());
            int n = pop();
            push(line.lay(n, row) ? 1 : 0);
        }

        private void doHump() {
            Row to = yard.rowOf(pop());
            Row from = yard.rowOf(pop());
            if (from == null || to == null) {
                raise(NO_THING);
            } else {
                push(from.humpInto(to));
            }
        }

        private void doSend() {
            int miles = pop();
            int n = pop();
            Row row = yard.rowOf(pop());
            if (row == null) {
                raise(NO_THING);
            } else {
                push(line.send(row, n, miles));
            }
        }
    }
}
