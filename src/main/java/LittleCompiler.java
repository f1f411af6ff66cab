/**
 * A small language with procedures, loops and an array: which texts are programs, their plain form, and what comes
 * out when they run.
 */
public final class LittleCompiler {
    public static final int BAD_ARG = -1;
    public static final int FULL = -2;
    public static final int NONE = -4;
    public static final int HALTED = 0;
    public static final int TIRED = 1;
    public static final int TOO_DEEP = 2;
    public static final int FULL_UP = 3;
    public static final int DIVIDED = 4;
    public static final int WRONG = -5;

    private static final int LONGEST = 150;
    private static final int NAMES = 8;
    private static final int CELLS = 16;
    private static final int LEFT_OUT = -1;

    private final int[] text;
    private final int[] globalsBefore;
    private final int[] cellsBefore;
    private final Parser parser;
    private final Machine machine;
    private int length;

    public LittleCompiler() {
        text = new int[LONGEST];
        globalsBefore = new int[NAMES];
        cellsBefore = new int[CELLS];
        Code code = new Code();
        Procedures procedures = new Procedures();
        parser = new Parser(code, procedures);
        machine = new Machine(code, procedures);
        length = 0;
    }

    public int token(int t) {
        if (!Token.exists(t)) {
            return BAD_ARG;
        }
        if (length >= LONGEST) {
            return FULL;
        }
        append(t);
        return length;
    }

    public int four(int a, int b, int c, int d) {
        if (!mayBeAppended(a) || !mayBeAppended(b) || !mayBeAppended(c) || !mayBeAppended(d)) {
            return BAD_ARG;
        }
        if (length + room(a) + room(b) + room(c) + room(d) > LONGEST) {
            return FULL;
        }
        append(a);
        append(b);
        append(c);
        append(d);
        return length;
    }

    public int untoken() {
        if (length <= 0 || length > text.length) {
            return NONE;
        }
        length--;
        forgetText();
        return text[length];
    }

    public void clear() {
        length = 0;
        forgetText();
    }

    public int tokens() {
        return length;
    }

    public int wrongAt() {
        parser.read(text, length);
        return parser.wrongToken;
    }

    public int fault() {
        parser.read(text, length);
        return parser.isProgram() ? parser.faultyToken : WRONG;
    }

    public int set(int g, int x) {
        if (g < 0 || g >= globalsBefore.length) {
            return BAD_ARG;
        }
        globalsBefore[g] = x;
        machine.stale = true;
        return 0;
    }

    public int cell(int i, int x) {
        if (i < 0 || i >= cellsBefore.length) {
            return BAD_ARG;
        }
        cellsBefore[i] = x;
        machine.stale = true;
        return 0;
    }

    public int run() {
        return execute() ? machine.ending : WRONG;
    }

    public int outs() {
        return execute() ? machine.putCount : WRONG;
    }

    public int output(int k) {
        if (!execute() || k < 0 || k >= machine.putCount || k >= machine.numbersPut.length) {
            return 0;
        }
        return machine.numbersPut[k];
    }

    public int global(int g) {
        if (g < 0 || g >= machine.globals.length || !execute()) {
            return 0;
        }
        return machine.globals[g];
    }

    public int cellAfter(int i) {
        if (i < 0 || i >= machine.cells.length || !execute()) {
            return 0;
        }
        return machine.cells[i];
    }

    public int turns() {
        return execute() ? machine.turnCount : WRONG;
    }

    public int deepest() {
        return execute() ? machine.deepestCall : WRONG;
    }

    public int plainSize() {
        parser.read(text, length);
        return parser.isProgram() ? parser.plainForm.size : WRONG;
    }

    public int plain(int i) {
        parser.read(text, length);
        if (!parser.isProgram() || i < 0 || i >= parser.plainForm.size || i >= parser.plainForm.text.length) {
            return NONE;
        }
        return parser.plainForm.text[i];
    }

    /** The machine here has a stack and no registers, so there is nothing to keep of n and care. */
    public int prepare(int n, int care) {
        if (n < 4 || n > 8 || care < 0 || care > 2) {
            return BAD_ARG;
        }
        return 0;
    }

    private static boolean mayBeAppended(int t) {
        return t == LEFT_OUT || Token.exists(t);
    }

    private static int room(int t) {
        return t == LEFT_OUT ? 0 : 1;
    }

    private void append(int t) {
        if (t == LEFT_OUT || length < 0 || length >= text.length) {
            return;
        }
        text[length] = t;
        length++;
        forgetText();
    }

    private void forgetText() {
        parser.stale = true;
        machine.stale = true;
    }

    /** Whether there is a run, whose findings stand in the machine then. */
    private boolean execute() {
        parser.read(text, length);
        if (!parser.isProgram() || parser.faultyToken != NONE) {
            return false;
        }
        machine.execute(globalsBefore, cellsBefore);
        return true;
    }

    /** The tokens by name. */
    static final class Token {
        static final int LAST_NUMBER = 99;
        static final int FIRST_NAME = 100;
        static final int LAST_NAME = 107;
        static final int M = 108;
        static final int FIRST_PROCEDURE = 110;
        static final int LAST_PROCEDURE = 113;
        static final int BECOMES = 120;
        static final int SEMICOLON = 121;
        static final int OPEN = 122;
        static final int CLOSE = 123;
        static final int COMMA = 124;
        static final int INDEX_OPEN = 125;
        static final int INDEX_CLOSE = 126;
        static final int PLUS = 130;
        static final int MINUS = 131;
        static final int TIMES = 132;
        static final int DIVIDE = 133;
        static final int REST = 134;
        static final int EQUAL = 140;
        static final int UNEQUAL = 141;
        static final int LESS = 142;
        static final int AT_MOST = 143;
        static final int MORE = 144;
        static final int AT_LEAST = 145;
        static final int AND = 150;
        static final int OR = 151;
        static final int NOT = 152;
        static final int IF = 160;
        static final int THEN = 161;
        static final int ELSE = 162;
        static final int END = 163;
        static final int WHILE = 164;
        static final int DO = 165;
        static final int REPEAT = 166;
        static final int UNTIL = 167;
        static final int RETURN = 168;
        static final int PUT = 169;
        static final int PROC = 170;
        static final int BEGIN = 171;
        static final int VAR = 172;
        static final int ELSIF = 173;

        static boolean exists(int t) {
            return t >= 0 && t <= M
                || isProcedure(t)
                || t >= BECOMES && t <= INDEX_CLOSE
                || t >= PLUS && t <= REST
                || t >= EQUAL && t <= AT_LEAST
                || t >= AND && t <= NOT
                || t >= IF && t <= ELSIF;
        }

        static boolean isNumber(int t) {
            return t >= 0 && t <= LAST_NUMBER;
        }

        static boolean isName(int t) {
            return t >= FIRST_NAME && t <= LAST_NAME;
        }

        static boolean isProcedure(int t) {
            return t >= FIRST_PROCEDURE && t <= LAST_PROCEDURE;
        }

        static boolean beginsStatement(int t) {
            return isName(t) || t == M || isProcedure(t) || t == PUT || t == RETURN || t == WHILE || t == REPEAT
                || t == IF;
        }

        static boolean opensStatements(int t) {
            return t == BEGIN || t == THEN || t == ELSE || t == DO || t == REPEAT;
        }

        static boolean endsStatements(int t) {
            return t == END || t == ELSIF || t == ELSE || t == UNTIL;
        }
    }

    /** How closely what an expression is made of holds together: the operators' levels, and that of a factor. */
    static final class Level {
        static final int NO_OPERATOR = -1;
        static final int EXPRESSION = 0;
        static final int SIMPLE = 1;
        static final int TERM = 2;
        static final int FACTOR = 3;

        static int ofOperator(int t) {
            if (t >= Token.EQUAL && t <= Token.AT_LEAST) {
                return EXPRESSION;
            }
            if (t == Token.PLUS || t == Token.MINUS || t == Token.OR) {
                return SIMPLE;
            }
            if (t >= Token.TIMES && t <= Token.REST || t == Token.AND) {
                return TERM;
            }
            return NO_OPERATOR;
        }
    }

    /** What the parser waits for. */
    static final class Next {
        static final int REFUSED = -1;
        static final int PROC_OR_BEGIN = 0;
        static final int PROC_NAME = 1;
        static final int PARAMETERS = 2;
        static final int FIRST_PARAMETER = 3;
        static final int PARAMETER = 4;
        static final int PARAMETER_END = 5;
        static final int VAR_OR_BEGIN = 6;
        static final int LOCAL = 7;
        static final int LOCAL_END = 8;
        static final int LAST_OF_HEAD = LOCAL_END;
        static final int STATEMENT = 9;
        static final int STATEMENT_END = 10;
        static final int BECOMES = 11;
        static final int TARGET_CLOSE = 12;
        static final int DO = 13;
        static final int THEN = 14;
        static final int INDEX_OPEN = 15;
        static final int INDEX_CLOSE = 16;
        static final int ARGUMENTS = 17;
        static final int FIRST_ARGUMENT = 18;
        static final int ARGUMENT_END = 19;
        static final int BRACKET_CLOSE = 20;
        static final int EXPRESSION = 21;
        static final int FACTOR = 22;
        static final int FACTOR_END = 23;
        static final int NOTHING = 24;
    }

    /** Instructions for the machine: a list of operations, each with an operand. */
    static final class Code {
        // A binary operator's operation is its token: these stay below the tokens.
        static final int STOP = 0;
        static final int PUSH = 1;
        static final int LOAD_GLOBAL = 2;
        static final int LOAD_LOCAL = 3;
        static final int LOAD_CELL = 4;
        static final int STORE_GLOBAL = 5;
        static final int STORE_LOCAL = 6;
        static final int STORE_CELL = 7;
        static final int NEGATE = 8;
        static final int NOT = 9;
        static final int TRUTH = 10;
        static final int DROP = 11;
        static final int PUT = 12;
        static final int FIRST_OF_FLOW = 20;
        static final int JUMP = 20;
        static final int JUMP_IF_ZERO = 21;
        static final int AND = 22;
        static final int OR = 23;
        static final int TURN = 24;
        static final int CALL = 25;
        static final int RETURN = 26;

        static final int NO_ADDRESS = -1;

        // No token makes more than two instructions.
        private final int[] operations = new int[2 * LONGEST];
        private final int[] operands = new int[2 * LONGEST];
        private int size;

        void restart() {
            size = 0;
        }

        int here() {
            return size;
        }

        int emit(int operation, int operand) {
            if (size < 0 || size >= operations.length || size >= operands.length) {
                return NO_ADDRESS;
            }
            operations[size] = operation;
            operands[size] = operand;
            size++;
            return size - 1;
        }

        int operation(int address) {
            return address >= 0 && address < size && address < operations.length ? operations[address] : STOP;
        }

        int operand(int address) {
            return address >= 0 && address < size && address < operands.length ? operands[address] : 0;
        }

        void leadHere(int address) {
            if (address >= 0 && address < size && address < operands.length) {
                operands[address] = size;
            }
        }

        /** Each jump of the chain has the address of the one before it as its operand. */
        void leadChainHere(int last) {
            int address = last;
            for (int i = 0; i < operands.length && address >= 0 && address < operands.length; i++) {
                int before = operands[address];
                operands[address] = size;
                address = before;
            }
        }
    }

    /** The procs of a text, the calls of them, and the faults of both. */
    static final class Procedures {
        static final int COUNT = 4;
        private static final int NOWHERE = -1;

        private final boolean[] known = new boolean[COUNT];
        private final int[] entries = new int[COUNT];
        private final int[] parameterCounts = new int[COUNT];
        private final int[] parameters = new int[COUNT * NAMES];
        // By the place of the call's procedure name in the text.
        private final int[] callees = new int[LONGEST];
        private final int[] argumentCounts = new int[LONGEST];
        private int mainEntry;
        // NOWHERE in a proc whose name an earlier one has: calls go to the first.
        private int current;
        private int ownNames;
        private int firstFault;

        void restart() {
            for (int p = 0; p < known.length; p++) {
                known[p] = false;
            }
            for (int i = 0; i < callees.length; i++) {
                callees[i] = NOWHERE;
            }
            mainEntry = 0;
            current = NOWHERE;
            ownNames = 0;
            firstFault = NONE;
        }

        void beginProcedure(int procedure, int at) {
            current = NOWHERE;
            ownNames = 0;
            if (procedure < 0 || procedure >= COUNT) {
                return;
            }
            if (known[procedure]) {
                noteFault(at);
                return;
            }
            known[procedure] = true;
            parameterCounts[procedure] = 0;
            current = procedure;
        }

        void addParameter(int name, int at) {
            addOwnName(name, at);
            if (current < 0 || current >= COUNT) {
                return;
            }
            int count = parameterCounts[current];
            if (count < NAMES) {
                parameters[current * NAMES + count] = name;
            }
            parameterCounts[current] = count + 1;
        }

        void addOwnName(int name, int at) {
            if (isOwn(name)) {
                noteFault(at);
            }
            ownNames |= 1 << name;
        }

        boolean isOwn(int name) {
            return (ownNames >> name & 1) != 0;
        }

        void beginBody(int entry) {
            if (current >= 0 && current < COUNT) {
                entries[current] = entry;
            }
        }

        void beginMainBody(int entry) {
            current = NOWHERE;
            ownNames = 0;
            mainEntry = entry;
        }

        void beginCall(int procedure, int at) {
            if (at >= 0 && at < LONGEST) {
                callees[at] = procedure;
                argumentCounts[at] = 0;
            }
        }

        void addArgument(int at) {
            if (at >= 0 && at < LONGEST) {
                argumentCounts[at]++;
            }
        }

        int callee(int at) {
            return at >= 0 && at < LONGEST ? callees[at] : NOWHERE;
        }

        /** Calls can be judged at the end alone: a proc may stand behind its calls. */
        int findFault(int length) {
            for (int at = 0; at < length && at < LONGEST; at++) {
                if (callees[at] != NOWHERE && !fits(callees[at], argumentCounts[at])) {
                    noteFault(at);
                }
            }
            return firstFault;
        }

        int entry(int procedure) {
            return procedure >= 0 && procedure < COUNT ? entries[procedure] : NOWHERE;
        }

        int mainEntry() {
            return mainEntry;
        }

        int parameterCount(int procedure) {
            return procedure >= 0 && procedure < COUNT ? Math.min(parameterCounts[procedure], NAMES) : 0;
        }

        int parameter(int procedure, int number) {
            if (procedure < 0 || procedure >= COUNT || number < 0 || number >= NAMES) {
                return 0;
            }
            return parameters[procedure * NAMES + number];
        }

        private boolean fits(int procedure, int arguments) {
            return procedure >= 0 && procedure < COUNT && known[procedure] && parameterCounts[procedure] == arguments;
        }

        private void noteFault(int at) {
            if (firstFault == NONE || at < firstFault) {
                firstFault = at;
            }
        }
    }

    /** What has begun and not ended yet, as a stack: a program may nest deeper than methods should call. */
    static final class Pending {
        static final int NOTHING = 0;
        // first: the operation or the operator's token; second: the instruction that may skip its right operand.
        static final int OPERATOR = 1;
        // first: the place of its token.
        static final int BRACKET = 2;
        static final int INDEX = 3;
        // first: the place of the procedure name.
        static final int CALL = 4;
        static final int CALL_STATEMENT = 5;
        static final int TARGET_INDEX = 6;
        // The expression that ends a statement; first and second: the instruction that is to follow it.
        static final int LAST_EXPRESSION = 7;
        // first: where the loop begins; second: the jump out of it.
        static final int WHILE_TEST = 8;
        static final int WHILE_BODY = 9;
        static final int REPEAT_BODY = 10;
        // first: the last of the jumps to the end; second: the jump to the next part.
        static final int IF_TEST = 11;
        static final int THEN_BODY = 12;
        static final int ELSE_BODY = 13;
        static final int PROC_BODY = 14;
        static final int MAIN_BODY = 15;

        // No token begins more than one thing.
        private final int[] kinds = new int[LONGEST];
        private final int[] firsts = new int[LONGEST];
        private final int[] seconds = new int[LONGEST];
        private int height;

        void restart() {
            height = 0;
        }

        void push(int kind, int first, int second) {
            if (height >= 0 && height < LONGEST) {
                kinds[height] = kind;
                firsts[height] = first;
                seconds[height] = second;
                height++;
            }
        }

        void pop() {
            if (height > 0) {
                height--;
            }
        }

        void replace(int kind, int first, int second) {
            pop();
            push(kind, first, second);
        }

        int kind() {
            return height > 0 && height <= LONGEST ? kinds[height - 1] : NOTHING;
        }

        int first() {
            return height > 0 && height <= LONGEST ? firsts[height - 1] : 0;
        }

        int second() {
            return height > 0 && height <= LONGEST ? seconds[height - 1] : 0;
        }
    }

    /** Which tokens the plain form leaves out. */
    static final class PlainForm {
        private static final int NO_BRACKETS = -1;

        final int[] text = new int[LONGEST];
        int size;
        private final boolean[] leftOut = new boolean[LONGEST];
        // The operand that was read last, and the brackets around it: they are judged before another one is read.
        private int level;
        private int open;
        private int close;

        void restart() {
            size = 0;
            beginOperand();
            for (int at = 0; at < leftOut.length; at++) {
                leftOut[at] = false;
            }
        }

        void leaveOut(int at) {
            if (at >= 0 && at < leftOut.length) {
                leftOut[at] = true;
            }
        }

        void beginOperand() {
            level = Level.FACTOR;
            open = NO_BRACKETS;
            close = NO_BRACKETS;
        }

        void becomeLevel(int newLevel) {
            level = newLevel;
        }

        void putInBrackets(int openAt, int closeAt) {
            open = openAt;
            close = closeAt;
        }

        /** The operand stands where what it is made of has to hold together at this level at least. */
        void judgeBrackets(int leastLevel) {
            if (level >= leastLevel && open >= 0 && open < leftOut.length && close >= 0 && close < leftOut.length) {
                leftOut[open] = true;
                leftOut[close] = true;
            }
            open = NO_BRACKETS;
        }

        void collect(int[] whole, int length) {
            size = 0;
            for (int at = 0; at < length && at < whole.length && at < LONGEST; at++) {
                boolean spare = leftOut[at] || whole[at] == Token.SEMICOLON && isBesideEmptyStatement(whole, length, at);
                if (!spare && size < text.length) {
                    text[size] = whole[at];
                    size++;
                }
            }
        }

        /** Between two statements that are not empty the last of the semicolons stays. */
        private boolean isBesideEmptyStatement(int[] whole, int length, int at) {
            boolean emptyBefore = size > 0 && size <= text.length && Token.opensStatements(text[size - 1]);
            int behind = at >= 0 && at < length - 1 && at < whole.length - 1 ? whole[at + 1] : Token.END;
            return emptyBefore || behind == Token.SEMICOLON || Token.endsStatements(behind);
        }
    }

    /** Reads the tokens of expressions and makes their instructions. */
    static final class Expressions {
        private final Code code;
        private final Procedures procedures;
        private final Pending pending;
        private final PlainForm plainForm;

        Expressions(Code code, Procedures procedures, Pending pending, PlainForm plainForm) {
            this.code = code;
            this.procedures = procedures;
            this.pending = pending;
            this.plainForm = plainForm;
        }

        int begin(int token, int at) {
            if (token == Token.PLUS) {
                plainForm.leaveOut(at);
                return Next.FACTOR;
            }
            if (token == Token.MINUS) {
                pending.push(Pending.OPERATOR, Code.NEGATE, Code.NO_ADDRESS);
                return Next.FACTOR;
            }
            return factor(token, at);
        }

        int factor(int token, int at) {
            if (Token.isNumber(token)) {
                return simpleFactor(Code.PUSH, token);
            }
            if (Token.isName(token)) {
                int name = token - Token.FIRST_NAME;
                return simpleFactor(procedures.isOwn(name) ? Code.LOAD_LOCAL : Code.LOAD_GLOBAL, name);
            }
            if (Token.isProcedure(token)) {
                procedures.beginCall(token - Token.FIRST_PROCEDURE, at);
                pending.push(Pending.CALL, at, 0);
                return Next.ARGUMENTS;
            }
            switch (token) {
                case Token.M:
                    pending.push(Pending.INDEX, 0, 0);
                    return Next.INDEX_OPEN;
                case Token.OPEN:
                    pending.push(Pending.BRACKET, at, 0);
                    return Next.EXPRESSION;
                case Token.NOT:
                    pending.push(Pending.OPERATOR, Code.NOT, Code.NO_ADDRESS);
                    return Next.FACTOR;
                default:
                    return Next.REFUSED;
            }
        }

        int operator(int token) {
            int level = Level.ofOperator(token);
            int least = Math.max(level, Level.SIMPLE);
            endOperators(least);
            boolean relation = level == Level.EXPRESSION;
            if (relation && pending.kind() == Pending.OPERATOR) {
                return Next.REFUSED;
            }
            plainForm.judgeBrackets(least);
            int skip = Code.NO_ADDRESS;
            if (token == Token.AND) {
                skip = code.emit(Code.AND, 0);
            } else if (token == Token.OR) {
                skip = code.emit(Code.OR, 0);
            }
            pending.push(Pending.OPERATOR, token, skip);
            return relation ? Next.EXPRESSION : Next.FACTOR;
        }

        /** No operator follows any more; answers what has to. */
        int end() {
            endOperators(Level.EXPRESSION);
            plainForm.judgeBrackets(Level.EXPRESSION);
            switch (pending.kind()) {
                case Pending.BRACKET:
                    return Next.BRACKET_CLOSE;
                case Pending.INDEX:
                    return Next.INDEX_CLOSE;
                case Pending.CALL:
                case Pending.CALL_STATEMENT:
                    procedures.addArgument(pending.first());
                    return Next.ARGUMENT_END;
                case Pending.TARGET_INDEX:
                    return Next.TARGET_CLOSE;
                case Pending.WHILE_TEST:
                    return Next.DO;
                case Pending.IF_TEST:
                    return Next.THEN;
                default:
                    code.emit(pending.first(), pending.second());
                    pending.pop();
                    return Next.STATEMENT_END;
            }
        }

        int closeBracket(int at) {
            plainForm.putInBrackets(pending.first(), at);
            pending.pop();
            return Next.FACTOR_END;
        }

        int closeIndex() {
            pending.pop();
            return simpleFactor(Code.LOAD_CELL, 0);
        }

        int afterArgument(int token) {
            if (token == Token.COMMA) {
                return Next.EXPRESSION;
            }
            return token == Token.CLOSE ? endCall() : Next.REFUSED;
        }

        int endCall() {
            int kind = pending.kind();
            int procedure = procedures.callee(pending.first());
            pending.pop();
            if (kind == Pending.CALL) {
                return simpleFactor(Code.CALL, procedure);
            }
            code.emit(Code.CALL, procedure);
            code.emit(Code.DROP, 0);
            return Next.STATEMENT_END;
        }

        private int simpleFactor(int operation, int operand) {
            code.emit(operation, operand);
            plainForm.beginOperand();
            return Next.FACTOR_END;
        }

        private void endOperators(int leastLevel) {
            for (int i = 0; i < LONGEST && pending.kind() == Pending.OPERATOR; i++) {
                int operation = pending.first();
                int level = levelOf(operation);
                if (level < leastLevel) {
                    return;
                }
                int skip = pending.second();
                pending.pop();
                endOperator(operation, level, skip);
            }
        }

        private static int levelOf(int operation) {
            if (operation == Code.NOT) {
                return Level.FACTOR;
            }
            return operation == Code.NEGATE ? Level.SIMPLE : Level.ofOperator(operation);
        }

        private void endOperator(int operation, int level, int skip) {
            plainForm.judgeBrackets(operation == Code.NOT ? Level.FACTOR : level + 1);
            plainForm.becomeLevel(level);
            if (skip == Code.NO_ADDRESS) {
                code.emit(operation, 0);
            } else {
                code.emit(Code.TRUTH, 0);
                code.leadHere(skip);
            }
        }
    }

    /** Reads the tokens of statements and makes their instructions. */
    static final class Statements {
        private final Code code;
        private final Procedures procedures;
        private final Pending pending;

        Statements(Code code, Procedures procedures, Pending pending) {
            this.code = code;
            this.procedures = procedures;
            this.pending = pending;
        }

        int begin(int token, int at) {
            if (Token.isName(token)) {
                int name = token - Token.FIRST_NAME;
                awaitLast(procedures.isOwn(name) ? Code.STORE_LOCAL : Code.STORE_GLOBAL, name);
                return Next.BECOMES;
            }
            if (Token.isProcedure(token)) {
                procedures.beginCall(token - Token.FIRST_PROCEDURE, at);
                pending.push(Pending.CALL_STATEMENT, at, 0);
                return Next.ARGUMENTS;
            }
            switch (token) {
                case Token.M:
                    pending.push(Pending.TARGET_INDEX, 0, 0);
                    return Next.INDEX_OPEN;
                case Token.PUT:
                    return awaitLast(Code.PUT, 0);
                case Token.RETURN:
                    return awaitLast(Code.RETURN, 0);
                case Token.WHILE:
                    pending.push(Pending.WHILE_TEST, code.here(), 0);
                    return Next.EXPRESSION;
                case Token.REPEAT:
                    pending.push(Pending.REPEAT_BODY, code.here(), 0);
                    code.emit(Code.TURN, 0);
                    return Next.STATEMENT;
                case Token.IF:
                    pending.push(Pending.IF_TEST, Code.NO_ADDRESS, 0);
                    return Next.EXPRESSION;
                default:
                    return Next.REFUSED;
            }
        }

        int closeTarget() {
            pending.replace(Pending.LAST_EXPRESSION, Code.STORE_CELL, 0);
            return Next.BECOMES;
        }

        int beginWhileBody() {
            pending.replace(Pending.WHILE_BODY, pending.first(), code.emit(Code.JUMP_IF_ZERO, 0));
            code.emit(Code.TURN, 0);
            return Next.STATEMENT;
        }

        int beginThen() {
            pending.replace(Pending.THEN_BODY, pending.first(), code.emit(Code.JUMP_IF_ZERO, 0));
            return Next.STATEMENT;
        }

        int end(int token) {
            if (token == Token.SEMICOLON) {
                return Next.STATEMENT;
            }
            switch (pending.kind()) {
                case Pending.THEN_BODY:
                    return endThen(token);
                case Pending.ELSE_BODY:
                    return token == Token.END ? endIf() : Next.REFUSED;
                case Pending.WHILE_BODY:
                    return token == Token.END ? endWhile() : Next.REFUSED;
                case Pending.REPEAT_BODY:
                    return token == Token.UNTIL ? beginUntil() : Next.REFUSED;
                case Pending.PROC_BODY:
                    return token == Token.END ? endBody(Next.PROC_OR_BEGIN) : Next.REFUSED;
                case Pending.MAIN_BODY:
                    return token == Token.END ? endBody(Next.NOTHING) : Next.REFUSED;
                default:
                    return Next.REFUSED;
            }
        }

        private int awaitLast(int operation, int operand) {
            pending.push(Pending.LAST_EXPRESSION, operation, operand);
            return Next.EXPRESSION;
        }

        private int endThen(int token) {
            if (token == Token.END) {
                code.leadHere(pending.second());
                return endIf();
            }
            if (token != Token.ELSIF && token != Token.ELSE) {
                return Next.REFUSED;
            }
            int jumps = code.emit(Code.JUMP, pending.first());
            code.leadHere(pending.second());
            pending.replace(token == Token.ELSIF ? Pending.IF_TEST : Pending.ELSE_BODY, jumps, 0);
            return token == Token.ELSIF ? Next.EXPRESSION : Next.STATEMENT;
        }

        private int endIf() {
            code.leadChainHere(pending.first());
            pending.pop();
            return Next.STATEMENT_END;
        }

        private int endWhile() {
            code.emit(Code.JUMP, pending.first());
            code.leadHere(pending.second());
            pending.pop();
            return Next.STATEMENT_END;
        }

        private int beginUntil() {
            pending.replace(Pending.LAST_EXPRESSION, Code.JUMP_IF_ZERO, pending.first());
            return Next.EXPRESSION;
        }

        private int endBody(int next) {
            code.emit(Code.PUSH, 0);
            code.emit(Code.RETURN, 0);
            pending.pop();
            return next;
        }
    }

    /** Reads a text token by token; it can be refused only at a token that no program has there. */
    static final class Parser {
        final PlainForm plainForm;
        int wrongToken;
        int faultyToken;
        // Most calls only ask: the text is read again after a change alone.
        boolean stale;
        private final Code code;
        private final Procedures procedures;
        private final Pending pending;
        private final Expressions expressions;
        private final Statements statements;

        Parser(Code code, Procedures procedures) {
            this.code = code;
            this.procedures = procedures;
            pending = new Pending();
            plainForm = new PlainForm();
            expressions = new Expressions(code, procedures, pending, plainForm);
            statements = new Statements(code, procedures, pending);
            wrongToken = 0;
            faultyToken = NONE;
            stale = true;
        }

        boolean isProgram() {
            return wrongToken == NONE;
        }

        void read(int[] text, int length) {
            if (!stale) {
                return;
            }
            restart();
            int next = Next.PROC_OR_BEGIN;
            for (int at = 0; at < length && at < text.length; at++) {
                int token = text[at];
                if (next == Next.FACTOR_END && Level.ofOperator(token) == Level.NO_OPERATOR) {
                    next = expressions.end();
                }
                next = next <= Next.LAST_OF_HEAD ? acceptInHead(next, token, at) : accept(next, token, at);
                if (next == Next.REFUSED) {
                    wrongToken = at;
                    return;
                }
            }
            if (next != Next.NOTHING) {
                wrongToken = length;
                return;
            }
            wrongToken = NONE;
            faultyToken = procedures.findFault(length);
            plainForm.collect(text, length);
        }

        private void restart() {
            code.restart();
            procedures.restart();
            pending.restart();
            plainForm.restart();
            faultyToken = NONE;
            stale = false;
        }

        private int accept(int next, int token, int at) {
            switch (next) {
                case Next.STATEMENT:
                    return Token.beginsStatement(token) ? statements.begin(token, at) : statements.end(token);
                case Next.STATEMENT_END:
                    return statements.end(token);
                case Next.BECOMES:
                    return token == Token.BECOMES ? Next.EXPRESSION : Next.REFUSED;
                case Next.TARGET_CLOSE:
                    return token == Token.INDEX_CLOSE ? statements.closeTarget() : Next.REFUSED;
                case Next.DO:
                    return token == Token.DO ? statements.beginWhileBody() : Next.REFUSED;
                case Next.THEN:
                    return token == Token.THEN ? statements.beginThen() : Next.REFUSED;
                case Next.INDEX_OPEN:
                    return token == Token.INDEX_OPEN ? Next.EXPRESSION : Next.REFUSED;
                case Next.INDEX_CLOSE:
                    return token == Token.INDEX_CLOSE ? expressions.closeIndex() : Next.REFUSED;
                case Next.ARGUMENTS:
                    return token == Token.OPEN ? Next.FIRST_ARGUMENT : Next.REFUSED;
                case Next.FIRST_ARGUMENT:
                    return token == Token.CLOSE ? expressions.endCall() : expressions.begin(token, at);
                case Next.ARGUMENT_END:
                    return expressions.afterArgument(token);
                case Next.BRACKET_CLOSE:
                    return token == Token.CLOSE ? expressions.closeBracket(at) : Next.REFUSED;
                case Next.EXPRESSION:
                    return expressions.begin(token, at);
                case Next.FACTOR:
                    return expressions.factor(token, at);
                case Next.FACTOR_END:
                    return expressions.operator(token);
                default:
                    return Next.REFUSED;
            }
        }

        private int acceptInHead(int next, int token, int at) {
            switch (next) {
                case Next.PROC_OR_BEGIN:
                    return token == Token.PROC ? Next.PROC_NAME : beginMain(token);
                case Next.PROC_NAME:
                    return beginProcedure(token, at);
                case Next.PARAMETERS:
                    return token == Token.OPEN ? Next.FIRST_PARAMETER : Next.REFUSED;
                case Next.FIRST_PARAMETER:
                    return token == Token.CLOSE ? Next.VAR_OR_BEGIN : parameter(token, at);
                case Next.PARAMETER:
                    return parameter(token, at);
                case Next.PARAMETER_END:
                    if (token == Token.COMMA) {
                        return Next.PARAMETER;
                    }
                    return token == Token.CLOSE ? Next.VAR_OR_BEGIN : Next.REFUSED;
                case Next.VAR_OR_BEGIN:
                    return token == Token.VAR ? Next.LOCAL : beginBody(token);
                case Next.LOCAL:
                    return local(token, at);
                case Next.LOCAL_END:
                    return token == Token.COMMA ? Next.LOCAL : beginBody(token);
                default:
                    return Next.REFUSED;
            }
        }

        private int beginProcedure(int token, int at) {
            if (!Token.isProcedure(token)) {
                return Next.REFUSED;
            }
            procedures.beginProcedure(token - Token.FIRST_PROCEDURE, at);
            return Next.PARAMETERS;
        }

        private int parameter(int token, int at) {
            if (!Token.isName(token)) {
                return Next.REFUSED;
            }
            procedures.addParameter(token - Token.FIRST_NAME, at);
            return Next.PARAMETER_END;
        }

        private int local(int token, int at) {
            if (!Token.isName(token)) {
                return Next.REFUSED;
            }
            procedures.addOwnName(token - Token.FIRST_NAME, at);
            return Next.LOCAL_END;
        }

        private int beginBody(int token) {
            if (token != Token.BEGIN) {
                return Next.REFUSED;
            }
            procedures.beginBody(code.here());
            pending.push(Pending.PROC_BODY, 0, 0);
            return Next.STATEMENT;
        }

        private int beginMain(int token) {
            if (token != Token.BEGIN) {
                return Next.REFUSED;
            }
            procedures.beginMainBody(code.here());
            pending.push(Pending.MAIN_BODY, 0, 0);
            return Next.STATEMENT;
        }
    }

    /** Runs the instructions of a program without faults. */
    static final class Machine {
        private static final int MOST_CALLS = 20;
        private static final int MOST_TURNS = 300;
        private static final int MOST_PUT = 20;
        // A waiting operand takes two tokens of its body at least, and no more than 21 bodies are under way.
        private static final int MOST_OPERANDS = 2048;
        // 300 turns leave no program that many: a body or loop begins 601 times at most, with 300 instructions.
        private static final int MOST_STEPS = 1000000;

        final int[] globals = new int[NAMES];
        final int[] cells = new int[CELLS];
        final int[] numbersPut = new int[MOST_PUT];
        int putCount;
        int turnCount;
        int deepestCall;
        int ending;
        boolean stale = true;
        private final Code code;
        private final Procedures procedures;
        private final int[] operands = new int[MOST_OPERANDS];
        private final int[] locals = new int[(MOST_CALLS + 1) * NAMES];
        private final int[] returns = new int[MOST_CALLS + 1];
        private int operandCount;
        private int callCount;
        private int next;
        private boolean running;

        Machine(Code code, Procedures procedures) {
            this.code = code;
            this.procedures = procedures;
        }

        void execute(int[] globalsBefore, int[] cellsBefore) {
            if (!stale) {
                return;
            }
            stale = false;
            for (int g = 0; g < globals.length && g < globalsBefore.length; g++) {
                globals[g] = globalsBefore[g];
            }
            for (int i = 0; i < cells.length && i < cellsBefore.length; i++) {
                cells[i] = cellsBefore[i];
            }
            putCount = 0;
            turnCount = 0;
            deepestCall = 0;
            ending = HALTED;
            operandCount = 0;
            callCount = 0;
            next = procedures.mainEntry();
            running = true;
            for (int steps = 0; steps < MOST_STEPS && running; steps++) {
                step();
            }
        }

        private void step() {
            int operation = code.operation(next);
            int operand = code.operand(next);
            next++;
            if (operation >= Token.PLUS) {
                calculate(operation);
            } else if (operation >= Code.FIRST_OF_FLOW) {
                go(operation, operand);
            } else {
                move(operation, operand);
            }
        }

        private void move(int operation, int operand) {
            switch (operation) {
                case Code.PUSH:
                    push(operand);
                    break;
                case Code.LOAD_GLOBAL:
                    push(operand >= 0 && operand < globals.length ? globals[operand] : 0);
                    break;
                case Code.LOAD_LOCAL:
                    push(loadLocal(operand));
                    break;
                case Code.LOAD_CELL:
                    push(loadCell(pop()));
                    break;
                case Code.STORE_GLOBAL:
                    storeGlobal(operand, pop());
                    break;
                case Code.STORE_LOCAL:
                    storeLocal(operand, pop());
                    break;
                case Code.STORE_CELL:
                    int value = pop();
                    storeCell(pop(), value);
                    break;
                case Code.NEGATE:
                    push(0 - pop());
                    break;
                case Code.NOT:
                    push(pop() == 0 ? 1 : 0);
                    break;
                case Code.TRUTH:
                    push(pop() != 0 ? 1 : 0);
                    break;
                case Code.DROP:
                    pop();
                    break;
                case Code.PUT:
                    putOut(pop());
                    break;
                default:
                    finish(HALTED);
                    break;
            }
        }

        private void go(int operation, int operand) {
            switch (operation) {
                case Code.JUMP:
                    next = operand;
                    break;
                case Code.JUMP_IF_ZERO:
                    if (pop() == 0) {
                        next = operand;
                    }
                    break;
                case Code.AND:
                    if (pop() == 0) {
                        push(0);
                        next = operand;
                    }
                    break;
                case Code.OR:
                    if (pop() != 0) {
                        push(1);
                        next = operand;
                    }
                    break;
                case Code.TURN:
                    takeTurn();
                    break;
                case Code.CALL:
                    call(operand);
                    break;
                case Code.RETURN:
                    leave();
                    break;
                default:
                    finish(HALTED);
                    break;
            }
        }

        private void calculate(int operator) {
            int right = pop();
            int left = pop();
            if (operator == Token.DIVIDE || operator == Token.REST) {
                divide(operator, left, right);
            } else if (operator >= Token.EQUAL) {
                push(holds(operator, left, right) ? 1 : 0);
            } else if (operator == Token.PLUS) {
                push(left + right);
            } else if (operator == Token.MINUS) {
                push(left - right);
            } else {
                push(left * right);
            }
        }

        private void divide(int operator, int left, int right) {
            if (right == 0) {
                finish(DIVIDED);
                return;
            }
            push(operator == Token.DIVIDE ? left / right : left % right);
        }

        private static boolean holds(int relation, int left, int right) {
            switch (relation) {
                case Token.EQUAL:
                    return left == right;
                case Token.UNEQUAL:
                    return left != right;
                case Token.LESS:
                    return left < right;
                case Token.AT_MOST:
                    return left <= right;
                case Token.MORE:
                    return left > right;
                default:
                    return left >= right;
            }
        }

        private void call(int procedure) {
            takeTurn();
            if (!running) {
                return;
            }
            if (callCount < 0 || callCount >= MOST_CALLS) {
                finish(TOO_DEEP);
                return;
            }
            callCount++;
            deepestCall = Math.max(deepestCall, callCount);
            returns[callCount] = next;
            for (int name = 0; name < NAMES; name++) {
                storeLocal(name, 0);
            }
            for (int k = procedures.parameterCount(procedure) - 1; k >= 0; k--) {
                storeLocal(procedures.parameter(procedure, k), pop());
            }
            next = procedures.entry(procedure);
        }

        /** The value that is returned stays where the caller looks for it: its statements left nothing above it. */
        private void leave() {
            if (callCount <= 0 || callCount > MOST_CALLS) {
                finish(HALTED);
                return;
            }
            next = returns[callCount];
            callCount--;
        }

        private void takeTurn() {
            if (turnCount >= MOST_TURNS) {
                finish(TIRED);
                return;
            }
            turnCount++;
        }

        private void putOut(int number) {
            if (putCount < 0 || putCount >= MOST_PUT) {
                finish(FULL_UP);
                return;
            }
            numbersPut[putCount] = number;
            putCount++;
        }

        private void finish(int how) {
            ending = how;
            running = false;
        }

        private int loadLocal(int name) {
            int slot = callCount * NAMES + name;
            return slot >= 0 && slot < locals.length ? locals[slot] : 0;
        }

        private void storeLocal(int name, int value) {
            int slot = callCount * NAMES + name;
            if (slot >= 0 && slot < locals.length) {
                locals[slot] = value;
            }
        }

        private void storeGlobal(int name, int value) {
            if (name >= 0 && name < globals.length) {
                globals[name] = value;
            }
        }

        private int loadCell(int index) {
            int cell = index & CELLS - 1;
            return cell >= 0 && cell < cells.length ? cells[cell] : 0;
        }

        private void storeCell(int index, int value) {
            int cell = index & CELLS - 1;
            if (cell >= 0 && cell < cells.length) {
                cells[cell] = value;
            }
        }

        private void push(int value) {
            if (operandCount >= 0 && operandCount < operands.length) {
                operands[operandCount] = value;
                operandCount++;
            }
        }

        private int pop() {
            if (operandCount <= 0 || operandCount > operands.length) {
                return 0;
            }
            operandCount--;
            return operands[operandCount];
        }
    }
}
