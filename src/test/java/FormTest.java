import com.sun.source.tree.ClassTree;
import com.sun.source.tree.CompilationUnitTree;
import com.sun.source.tree.MethodInvocationTree;
import com.sun.source.tree.MethodTree;
import com.sun.source.tree.NewClassTree;
import com.sun.source.util.JavacTask;
import com.sun.source.util.TreePathScanner;
import com.sun.source.util.Trees;
import java.io.IOException;
import java.lang.reflect.Constructor;
import java.lang.reflect.Field;
import java.lang.reflect.Method;
import java.lang.reflect.Modifier;
import java.nio.file.Files;
import java.nio.file.Path;
import java.util.Arrays;
import java.util.LinkedHashMap;
import java.util.LinkedHashSet;
import java.util.List;
import java.util.Map;
import java.util.Set;
import java.util.TreeSet;
import java.util.regex.Matcher;
import java.util.regex.Pattern;
import javax.lang.model.element.Element;
import javax.tools.JavaCompiler;
import javax.tools.StandardJavaFileManager;
import javax.tools.ToolProvider;

/** The document's face, and the rules of LANGUAGE.md that can be read off the source or the class. */
public final class FormTest {
    private static final String FACE = "nodes(int):boolean link(int,int,int):int state(int,boolean):int cost(int,int):int "
        + "bind(int,int):boolean unbind(int):boolean depth(int):boolean on(int):int off(int):int label(int):int pop(int):int "
        + "write():int witness():int greedy():int covers(int):int far(int,int):int paths(int,int):long next(int,int):int "
        + "ends(int):int exact(int):int high(int):int course(int):int share(int,int,int):long demand(int,int,int):boolean "
        + "load(int,int):long heaviest():int repair(int,int):int guards(int):int writable(int,int,int,int):int "
        + "stays(int,int):int keep():int take(int):int feed(int,int,int,int,int):int end(int):boolean text():int "
        + "fault(int):int undo():int at(int,int):int linkOf(int,int):int binding(int,int):int demandOf(int,int):int "
        + "image(boolean):boolean look(int):int";
    private static final String[] FORBIDDEN = {"\\bthrow\\b", "\\bthrows\\b", "\\btry\\b", "\\bcatch\\b", "\\bsynchronized\\b",
        "\\bassert\\b", "->", "::", "\\w+Exact\\s*\\(", "\\bSystem\\.(?!arraycopy\\b)", "\\bThread\\b", "\\bvar\\b",
        "\\bequals\\s*\\(", "\\bhashCode\\b", "\\btoString\\b", "\\bnew\\s+\\w+\\s*\\([^()]*\\)\\s*\\{", "\\bdouble\\b", "\\bfloat\\b",
        "\\bMap\\b", "\\bSet\\b", "\\bStream\\b", "\\bOptional\\b", "\\bpackage\\b", "\\bwhile\\s*\\(\\s*true", "for\\s*\\(\\s*;\\s*;"};

    private static int wrong;

    public static void main(String[] args) throws Exception {
        face();
        classes();
        Path path = Path.of(System.getProperty("source", "src/main/java/LabelStacks.java"));
        source(Files.readString(path));
        callDepth(path);
        System.out.println("FormTest: " + wrong + " faults");
        if (wrong != 0) {
            System.exit(1);
        }
    }

    private static void must(boolean so, String what) {
        if (!so) {
            wrong++;
            System.out.println("FormTest: " + what);
        }
    }

    private static void face() throws Exception {
        Class<?> c = LabelStacks.class;
        must(Modifier.isPublic(c.getModifiers()) && Modifier.isFinal(c.getModifiers()), "the class is public and final");
        Set<String> due = new TreeSet<>(Arrays.asList(FACE.split(" ")));
        Set<String> there = new TreeSet<>();
        for (Method m : c.getDeclaredMethods()) {
            if (Modifier.isPublic(m.getModifiers())) {
                there.add(signature(m));
                must(!Modifier.isStatic(m.getModifiers()), m.getName() + " is static");
            } else {
                must(Modifier.isPrivate(m.getModifiers()), m.getName() + " is not private");
            }
        }
        must(due.equals(there), "the face is " + there);
        for (Constructor<?> made : c.getDeclaredConstructors()) {
            must(Modifier.isPublic(made.getModifiers()) && made.getParameterCount() == 0, "constructor " + made);
        }
        for (Field f : c.getDeclaredFields()) {
            must(f.getName().equals("NONE") || Modifier.isPrivate(f.getModifiers()), f.getName() + " is not private");
        }
        must(c.getField("NONE").getInt(null) == -1 && c.getField("NONE").getType() == int.class, "NONE");
    }

    private static String signature(Method m) {
        StringBuilder text = new StringBuilder(m.getName()).append('(');
        for (Class<?> p : m.getParameterTypes()) {
            text.append(text.charAt(text.length() - 1) == '(' ? "" : ",").append(p.getName());
        }
        return text.append("):").append(m.getReturnType().getName()).toString();
    }

    private static void classes() {
        Set<String> names = new TreeSet<>();
        for (String s : FACE.split(" ")) {
            names.add(s.substring(0, s.indexOf('(')));
        }
        Class<?>[] inside = LabelStacks.class.getDeclaredClasses();
        must(inside.length + 1 <= 12, (inside.length + 1) + " classes");
        members(LabelStacks.class);
        for (Class<?> c : inside) {
            int mods = c.getModifiers();
            must(Modifier.isStatic(mods), c + " is not static");
            must(!Modifier.isPublic(mods) && !Modifier.isProtected(mods), c + " is seen from outside");
            must(c.getDeclaredClasses().length == 0, c + " has classes inside");
            members(c);
            for (Method m : c.getDeclaredMethods()) {
                must(!names.contains(m.getName()), c + " has a method with a public one's name: " + m.getName());
            }
        }
        for (Method m : LabelStacks.class.getDeclaredMethods()) {
            must(Modifier.isPublic(m.getModifiers()) || !names.contains(m.getName()), "a private " + m.getName());
        }
    }

    private static void members(Class<?> c) {
        int fields = 0;
        for (Field f : c.getDeclaredFields()) {
            boolean fixed = Modifier.isStatic(f.getModifiers());
            fields += fixed ? 0 : 1;
            must(!fixed || Modifier.isFinal(f.getModifiers()), f + " is static and may change");
        }
        must(fields <= 20, c + " has " + fields + " fields");
        for (Method m : c.getDeclaredMethods()) {
            must(m.getParameterCount() <= 7, m + " takes too much");
            must(!m.isSynthetic(), m + " is the compiler's own");
        }
    }

    private static void source(String text) {
        String bare = text.replaceAll("(?s)/\\*.*?\\*/", " ").replaceAll("//[^\n]*", "").replaceAll("\"[^\"\n]*\"", "\"\"");
        for (String pattern : FORBIDDEN) {
            Matcher found = Pattern.compile(pattern).matcher(bare);
            must(!found.find(), "the source has " + pattern);
        }
        Matcher imports = Pattern.compile("import ([\\w.]+);").matcher(bare);
        while (imports.find()) {
            must(imports.group(1).matches("java\\.util\\.(Arrays|ArrayList|List|Iterator)"), imports.group());
        }
        for (char sign : text.toCharArray()) {
            must(sign < 128, "a sign beyond 127: " + sign);
        }
        String[] lines = text.split("\n");
        int start = -1;
        for (int i = 0; i < lines.length; i++) {
            String line = lines[i];
            must(line.length() <= 120, "a long line: " + (i + 1));
            if (line.matches("( {4}| {8})\\w[^;=]*\\) \\{")) {
                start = i;
            } else if (start >= 0 && line.matches("( {4}| {8})\\}")) {
                must(i - start < 60, "a long method, from line " + (start + 1));
                start = -1;
            }
        }
    }

    /** Calls that are no recursion go at most eight deep; a call of the library counts as one. */
    private static void callDepth(Path path) throws IOException {
        JavaCompiler compiler = ToolProvider.getSystemJavaCompiler();
        try (StandardJavaFileManager files = compiler.getStandardFileManager(null, null, null)) {
            JavacTask task = (JavacTask) compiler.getTask(null, files, null, List.of("-proc:none"), null,
                files.getJavaFileObjects(path));
            Calls calls = new Calls(Trees.instance(task));
            Iterable<? extends CompilationUnitTree> units = task.parse();
            task.analyze();
            calls.scan(units, null);
            for (Element made : calls.from.keySet()) {
                int deep = calls.depthOf(made, new LinkedHashSet<>());
                must(deep <= 8, made + " goes " + deep + " deep");
            }
            must(calls.from.size() > 100, "calls were not read: " + calls.from.size());
        }
    }

    /** Which method calls which. */
    private static final class Calls extends TreePathScanner<Void, Void> {
        final Map<Element, Set<Element>> from = new LinkedHashMap<>();
        private final Map<Element, Integer> known = new LinkedHashMap<>();
        private final Trees trees;
        private Element now;

        Calls(Trees trees) {
            this.trees = trees;
        }

        int depthOf(Element made, Set<Element> open) {
            if (known.containsKey(made)) {
                return known.get(made);
            }
            int deepest = 0;
            open.add(made);
            for (Element called : from.getOrDefault(made, Set.of())) {
                if (!open.contains(called)) {
                    deepest = Math.max(deepest, depthOf(called, open));
                }
            }
            open.remove(made);
            known.put(made, deepest + 1);
            return deepest + 1;
        }

        @Override
        public Void visitClass(ClassTree tree, Void nothing) {
            Element before = now;
            super.visitClass(tree, nothing);
            now = before;
            return null;
        }

        @Override
        public Void visitMethod(MethodTree tree, Void nothing) {
            now = trees.getElement(getCurrentPath());
            from.putIfAbsent(now, new LinkedHashSet<>());
            super.visitMethod(tree, nothing);
            now = null;
            return null;
        }

        @Override
        public Void visitMethodInvocation(MethodInvocationTree tree, Void nothing) {
            return called(trees.getElement(getCurrentPath()), super.visitMethodInvocation(tree, nothing));
        }

        @Override
        public Void visitNewClass(NewClassTree tree, Void nothing) {
            return called(trees.getElement(getCurrentPath()), super.visitNewClass(tree, nothing));
        }

        private Void called(Element method, Void nothing) {
            if (now != null && method != null) {
                from.get(now).add(method);
            }
            return nothing;
        }
    }
}
